import java.util.Arrays;

/** Sets of tones in a ring, on a shelf of places; ../shared/DOC.md says what each call promises. */
public final class ToneSets {
    public static final int NONE = -1, UNKNOWN = -1000000001, OUTSIDE = -1000000002, NOT = -1000000003, FULL = -1000000004;

    private static final int LEAST_RING = 5;
    private static final int MOST_RING = 12;
    private static final int MOST_PLACES = 8;
    private static final int MOST_DRAWN = 8;
    private static final int MOST_DEEDS = 16;
    private static final int MOST_ENTRIES = 20;
    private static final int IMAGES = 2;
    /** Above the length of every way and every row of ways. */
    private static final int FAR = 1000000;

    private final Shelf shelf;
    private final Past past;
    private final Rows images;
    private final Book book;
    private final Forms formList;
    private final Ways ways;
    private final Round round;
    private final Smooth smooth;

    public ToneSets() {
        shelf = new Shelf();
        past = new Past();
        images = new Rows(IMAGES);
        book = new Book();
        formList = new Forms();
        ways = new Ways();
        round = new Round();
        smooth = new Smooth();
    }

    // ---- what is so

    public int told(int what) {
        switch (what) {
            case 0:
                return shelf.size;
            case 1:
                return shelf.places;
            case 2:
                return formList.countAll(shelf.size);
            case 3:
                return formList.countTwinPairs(shelf.size);
            case 4:
                return round.least(shelf, ways);
            case 5:
                return shelf.countUnlikeForms();
            case 6:
                return book.entries;
            case 7:
                return book.firstWrong(shelf, ways);
            case 8:
                return past.deeds;
            case 9:
                return shelf.drawn;
            default:
                return OUTSIDE;
        }
    }

    public int at(int p, int what) {
        if (!shelf.has(p)) {
            return UNKNOWN;
        }
        int set = shelf.setAt(p);
        int size = shelf.size;
        switch (what) {
            case 0:
                return set;
            case 1:
                return Integer.bitCount(set);
            case 2:
                return Ring.formOf(set, size);
            case 3:
                return Ring.kinOf(set, size);
            case 4:
                return Ring.firstImageThatIsForm(set, size);
            case 5:
                return formList.countTwins(Ring.formOf(set, size), size);
            case 6:
                return formList.numberOf(Ring.formOf(set, size), size);
            default:
                return OUTSIDE;
        }
    }

    public int interval(int p, int d) {
        if (!shelf.has(p)) {
            return UNKNOWN;
        }
        if (d < 1 || d > shelf.size / 2) {
            return OUTSIDE;
        }
        return Ring.pairsApart(shelf.setAt(p), d, shelf.size);
    }

    public int forms(int k) {
        if (k < 0 || k > shelf.size) {
            return OUTSIDE;
        }
        return formList.count(k, shelf.size);
    }

    public int formAt(int k, int i) {
        if (k < 0 || k > shelf.size) {
            return OUTSIDE;
        }
        if (i < 0 || i >= formList.count(k, shelf.size)) {
            return UNKNOWN;
        }
        return formList.form(k, i, shelf.size);
    }

    public int inside(int p, int q) {
        if (!shelf.has(p) || !shelf.has(q)) {
            return UNKNOWN;
        }
        return Ring.partsLike(shelf.setAt(p), shelf.setAt(q), shelf.size);
    }

    public int way(int p, int q) {
        if (!shelf.has(p) || !shelf.has(q)) {
            return UNKNOWN;
        }
        if (shelf.setAt(p) == 0 || shelf.setAt(q) == 0) {
            return NOT;
        }
        return ways.least(shelf.setAt(p), shelf.setAt(q), shelf.size);
    }

    public int nearest(int p, int q, int what) {
        if (!shelf.has(p) || !shelf.has(q)) {
            return UNKNOWN;
        }
        if (what < 0 || what > 1) {
            return OUTSIDE;
        }
        if (shelf.setAt(p) == 0 || shelf.setAt(q) == 0) {
            return NOT;
        }
        ways.findNearestImage(shelf.setAt(p), shelf.setAt(q), shelf.size);
        return what == 0 ? ways.nearestNumber : ways.nearestLength;
    }

    public int easy(int p, int q, int what) {
        if (!shelf.has(p) || !shelf.has(q)) {
            return UNKNOWN;
        }
        if (what < 0 || what > 1) {
            return OUTSIDE;
        }
        if (Integer.bitCount(shelf.setAt(p)) != Integer.bitCount(shelf.setAt(q))) {
            return NOT;
        }
        smooth.search(shelf.setAt(p), shelf.setAt(q), shelf.size);
        return what == 0 ? smooth.cost : smooth.next;
    }

    // ---- deeds

    public int ring(int m) {
        if (m < LEAST_RING || m > MOST_RING) {
            return OUTSIDE;
        }
        past.remember(shelf);
        int before = shelf.size;
        shelf.size = m;
        shelf.places = 0;
        return before;
    }

    public int put(int set) {
        if (set < 0 || set > Ring.allTones(shelf.size)) {
            return OUTSIDE;
        }
        if (!shelf.hasRoom()) {
            return FULL;
        }
        past.remember(shelf);
        shelf.append(set);
        return shelf.places - 1;
    }

    public int change(int p, int kind, int v) {
        if (!shelf.has(p)) {
            return UNKNOWN;
        }
        int changed = Ring.changed(shelf.setAt(p), kind, v, shelf.size);
        if (changed < 0) {
            return changed;
        }
        past.remember(shelf);
        shelf.replace(p, changed);
        return changed;
    }

    public int join(int p, int q, int kind) {
        if (!shelf.has(p) || !shelf.has(q)) {
            return UNKNOWN;
        }
        int joined = Ring.joined(shelf.setAt(p), shelf.setAt(q), kind);
        if (joined < 0) {
            return joined;
        }
        past.remember(shelf);
        shelf.replace(p, joined);
        return joined;
    }

    public int swap(int p, int q) {
        if (!shelf.has(p) || !shelf.has(q)) {
            return UNKNOWN;
        }
        past.remember(shelf);
        int first = shelf.setAt(p);
        int second = shelf.setAt(q);
        shelf.replace(p, second);
        shelf.replace(q, first);
        return Ring.formOf(first, shelf.size) != Ring.formOf(second, shelf.size) ? 1 : 0;
    }

    public int take(int p) {
        if (!shelf.has(p)) {
            return UNKNOWN;
        }
        past.remember(shelf);
        shelf.remove(p);
        return shelf.places;
    }

    public int drift(int n) {
        if (n < 1 || n > MOST_DRAWN) {
            return OUTSIDE;
        }
        for (int i = 0; i < n && shelf.hasRoom(); i++) {
            past.remember(shelf);
            shelf.append(shelf.drawSet());
        }
        return shelf.places;
    }

    public int undo(int n) {
        if (n < 1 || n > MOST_DEEDS) {
            return OUTSIDE;
        }
        if (n > past.deeds) {
            return NOT;
        }
        past.bringBack(n, shelf);
        return shelf.places;
    }

    // ---- the book

    public int write(int p, int v) {
        if (!shelf.has(p)) {
            return UNKNOWN;
        }
        if (!book.hasRoom()) {
            return FULL;
        }
        book.append(p, v);
        return book.entries;
    }

    public int tear() {
        int had = book.entries;
        book.entries = 0;
        return had;
    }

    // ---- images

    public int seed(int v) {
        if (v < 0) {
            return OUTSIDE;
        }
        int before = shelf.drawn;
        shelf.drawn = v;
        return before;
    }

    public int keep(int i) {
        if (i < 0 || i >= IMAGES) {
            return UNKNOWN;
        }
        images.store(i, shelf);
        past.deeds = 0;
        return 1;
    }

    public int goBack(int i) {
        if (i < 0 || i >= IMAGES) {
            return UNKNOWN;
        }
        if (!images.isStored(i)) {
            return NOT;
        }
        images.load(i, shelf);
        shelf.drawn = images.drawnOf(i);
        past.deeds = 0;
        return 1;
    }

    /** What can be said of sets alone, in a ring of so many tones. */
    private static final class Ring {
        private Ring() {
        }

        static int allTones(int size) {
            return (1 << size) - 1;
        }

        /** The turn goes from 0 to the size less 1. */
        static int turned(int set, int turn, int size) {
            return ((set << turn) | (set >> (size - turn))) & allTones(size);
        }

        static int mirrored(int set, int size) {
            int mirror = set & 1;
            for (int tone = 1; tone < size; tone++) {
                mirror |= ((set >> tone) & 1) << (size - tone);
            }
            return mirror;
        }

        static int multiplied(int set, int factor, int size) {
            int product = 0;
            int goal = 0;
            for (int tone = 0; tone < size; tone++) {
                product |= ((set >> tone) & 1) << goal;
                goal += factor;
                if (goal >= size) {
                    goal -= size;
                }
            }
            return product;
        }

        static int formOf(int set, int size) {
            int mirror = mirrored(set, size);
            int least = set;
            for (int turn = 0; turn < size; turn++) {
                least = Math.min(least, turned(set, turn, size));
                least = Math.min(least, turned(mirror, turn, size));
            }
            return least;
        }

        /** At least 1, as each set is its own turn by 0. */
        static int kinOf(int set, int size) {
            int mirror = mirrored(set, size);
            int count = 0;
            for (int turn = 0; turn < size; turn++) {
                if (turned(set, turn, size) == set) {
                    count++;
                }
                if (turned(mirror, turn, size) == set) {
                    count++;
                }
            }
            return count;
        }

        static int firstImageThatIsForm(int set, int size) {
            int form = formOf(set, size);
            int mirror = mirrored(set, size);
            for (int turn = 0; turn < size; turn++) {
                if (turned(set, turn, size) == form) {
                    return turn;
                }
            }
            for (int turn = 0; turn < size; turn++) {
                if (turned(mirror, turn, size) == form) {
                    return size + turn;
                }
            }
            return NONE;
        }

        static int pairsApart(int set, int steps, int size) {
            int count = Integer.bitCount(set & turned(set, steps, size));
            // half round the ring each pair is met from both of its tones
            return 2 * steps == size ? count / 2 : count;
        }

        /** All intervals as one number, four bits each: no count is above 12. */
        static int intervalRow(int set, int size) {
            int row = 0;
            for (int steps = 1; steps <= size / 2; steps++) {
                row = row * 16 + pairsApart(set, steps, size);
            }
            return row;
        }

        /** The sets of one form are its images, and each of them comes kin times among these. */
        static int partsLike(int set, int other, int size) {
            int mirror = mirrored(other, size);
            int count = 0;
            for (int turn = 0; turn < size; turn++) {
                if ((turned(other, turn, size) & ~set) == 0) {
                    count++;
                }
                if ((turned(mirror, turn, size) & ~set) == 0) {
                    count++;
                }
            }
            int kin = kinOf(other, size);
            return kin > 0 ? count / kin : 0;
        }

        /** A set, or a refusal (below 0). */
        static int changed(int set, int kind, int v, int size) {
            switch (kind) {
                case 0:
                    return v < 0 || v >= size ? OUTSIDE : turned(set, v, size);
                case 1:
                    return mirrored(set, size);
                case 2:
                    if (v < 1 || v >= size) {
                        return OUTSIDE;
                    }
                    return haveCommonDivisor(v, size) ? NOT : multiplied(set, v, size);
                case 3:
                    return allTones(size) & ~set;
                case 4:
                    return v < 0 || v >= size ? OUTSIDE : set ^ (1 << v);
                case 5:
                    return formOf(set, size);
                default:
                    return OUTSIDE;
            }
        }

        private static boolean haveCommonDivisor(int v, int size) {
            for (int divisor = 2; divisor <= v; divisor++) {
                if (v % divisor == 0 && size % divisor == 0) {
                    return true;
                }
            }
            return false;
        }

        /** A set, or a refusal (below 0). */
        static int joined(int first, int second, int kind) {
            switch (kind) {
                case 0:
                    return first & second;
                case 1:
                    return first | second;
                case 2:
                    return first ^ second;
                case 3:
                    return first & ~second;
                default:
                    return OUTSIDE;
            }
        }
    }

    /** What is so now: the ring's size, the sets at the places, the seed. */
    private static final class Shelf {
        int size = MOST_RING;
        int places = 0;
        int drawn = 0;
        private final int[] sets = new int[MOST_PLACES];

        boolean has(int p) {
            return p >= 0 && p < places;
        }

        boolean hasRoom() {
            return places < MOST_PLACES;
        }

        int setAt(int p) {
            return has(p) ? sets[p] : 0;
        }

        void replace(int p, int set) {
            if (has(p)) {
                sets[p] = set;
            }
        }

        void append(int set) {
            if (hasRoom()) {
                sets[places] = set;
                places++;
            }
        }

        void remove(int p) {
            if (has(p)) {
                for (int i = p + 1; i < places; i++) {
                    sets[i - 1] = sets[i];
                }
                places--;
            }
        }

        int drawSet() {
            // the product may wrap: what is left over by 2 to the 31 stays right
            drawn = (drawn * 1103515245 + 12345) & 0x7fffffff;
            return (drawn / 65536) & Ring.allTones(size);
        }

        int countUnlikeForms() {
            int count = 0;
            for (int p = 0; p < places; p++) {
                if (!isFormAhead(p)) {
                    count++;
                }
            }
            return count;
        }

        private boolean isFormAhead(int p) {
            int form = Ring.formOf(setAt(p), size);
            for (int earlier = 0; earlier < p; earlier++) {
                if (Ring.formOf(setAt(earlier), size) == form) {
                    return true;
                }
            }
            return false;
        }
    }

    /** Copies of the shelf, one behind another in one array, so that keeping one makes no object. */
    private static final class Rows {
        private static final int SIZE = 0;
        private static final int PLACES = 1;
        private static final int DRAWN = 2;
        private static final int SETS = 3;
        private static final int WIDTH = SETS + MOST_PLACES;

        private final int count;
        private final int[] cells;

        Rows(int rows) {
            count = Math.max(0, Math.min(rows, MOST_DEEDS));
            cells = new int[count * WIDTH];
        }

        private boolean has(int row) {
            return row >= 0 && row < count;
        }

        /** No ring has the size 0, so a row that was never written has it. */
        boolean isStored(int row) {
            return has(row) && cells[row * WIDTH + SIZE] != 0;
        }

        void store(int row, Shelf from) {
            if (!has(row)) {
                return;
            }
            int start = row * WIDTH;
            cells[start + SIZE] = from.size;
            cells[start + PLACES] = from.places;
            cells[start + DRAWN] = from.drawn;
            for (int p = 0; p < MOST_PLACES; p++) {
                cells[start + SETS + p] = from.setAt(p);
            }
        }

        /** The seed is left as it is: undoing does not bring it back. */
        void load(int row, Shelf to) {
            if (!isStored(row)) {
                return;
            }
            int start = row * WIDTH;
            to.size = cells[start + SIZE];
            to.places = 0;
            for (int p = 0; p < cells[start + PLACES] && p < MOST_PLACES; p++) {
                to.append(cells[start + SETS + p]);
            }
        }

        int drawnOf(int row) {
            return isStored(row) ? cells[row * WIDTH + DRAWN] : 0;
        }
    }

    /** The shelf as it was ahead of each of the latest deeds; the oldest row is written over. */
    private static final class Past {
        int deeds = 0;
        private int nextRow = 0;
        private final Rows rows = new Rows(MOST_DEEDS);

        void remember(Shelf shelf) {
            rows.store(nextRow, shelf);
            nextRow = (nextRow + 1) % MOST_DEEDS;
            deeds = Math.min(deeds + 1, MOST_DEEDS);
        }

        void bringBack(int n, Shelf shelf) {
            if (n < 1 || n > deeds) {
                return;
            }
            nextRow = (nextRow + MOST_DEEDS - n) % MOST_DEEDS;
            deeds -= n;
            rows.load(nextRow, shelf);
        }
    }

    /** Entries that tell how long the way from place 0 to another place is. */
    private static final class Book {
        int entries = 0;
        private final int[] goals = new int[MOST_ENTRIES];
        private final int[] lengths = new int[MOST_ENTRIES];

        boolean hasRoom() {
            return entries < MOST_ENTRIES;
        }

        void append(int p, int length) {
            if (hasRoom()) {
                goals[entries] = p;
                lengths[entries] = length;
                entries++;
            }
        }

        int firstWrong(Shelf shelf, Ways ways) {
            for (int i = 0; i < entries; i++) {
                if (!isSo(goals[i], lengths[i], shelf, ways)) {
                    return i;
                }
            }
            return NONE;
        }

        /** A place that is gone has the set 0 here, and from or to that no way is right. */
        private boolean isSo(int p, int length, Shelf shelf, Ways ways) {
            int from = shelf.setAt(0);
            int to = shelf.setAt(p);
            return from != 0 && to != 0 && ways.least(from, to, shelf.size) == length;
        }
    }

    /** A bit for each set. */
    private static final class Seen {
        private final int[] bits = new int[(1 << MOST_RING) / 32];

        void clear() {
            Arrays.fill(bits, 0);
        }

        boolean has(int set) {
            int cell = set >> 5;
            return cell >= 0 && cell < bits.length && (bits[cell] & (1 << (set & 31))) != 0;
        }

        void add(int set) {
            int cell = set >> 5;
            if (cell >= 0 && cell < bits.length) {
                bits[cell] |= 1 << (set & 31);
            }
        }
    }

    /** All forms of one ring, found when they are first asked for in it, those of fewer tones first. */
    private static final class Forms {
        /** So many has the ring of 12 tones, and no smaller one has more. */
        private static final int MOST_FORMS = 224;

        private int builtSize = 0;
        private int all = 0;
        private final int[] rising = new int[MOST_FORMS];
        private final int[] sorted = new int[MOST_FORMS];
        private final int[] rows = new int[MOST_FORMS];
        /** Where the forms of k tones begin, and with k + 1 where they end. */
        private final int[] starts = new int[MOST_RING + 2];
        private final Seen seen = new Seen();

        int countAll(int size) {
            build(size);
            return all;
        }

        int count(int k, int size) {
            build(size);
            return end(k) - start(k);
        }

        int form(int k, int i, int size) {
            build(size);
            int spot = start(k) + i;
            return i >= 0 && spot < end(k) ? sorted[spot] : NONE;
        }

        int numberOf(int form, int size) {
            build(size);
            int k = Integer.bitCount(form);
            for (int spot = start(k); spot < end(k); spot++) {
                if (sorted[spot] == form) {
                    return spot - start(k);
                }
            }
            return NONE;
        }

        int countTwins(int form, int size) {
            build(size);
            int k = Integer.bitCount(form);
            int row = Ring.intervalRow(form, size);
            int count = 0;
            for (int spot = start(k); spot < end(k); spot++) {
                if (rows[spot] == row && sorted[spot] != form) {
                    count++;
                }
            }
            return count;
        }

        int countTwinPairs(int size) {
            build(size);
            int count = 0;
            for (int k = 0; k <= size; k++) {
                for (int spot = start(k); spot < end(k); spot++) {
                    count += countTwinsBehind(spot, end(k));
                }
            }
            return count;
        }

        private int countTwinsBehind(int spot, int end) {
            int row = rows[spot];
            int count = 0;
            for (int later = spot + 1; later < end; later++) {
                if (rows[later] == row) {
                    count++;
                }
            }
            return count;
        }

        private int start(int k) {
            return k >= 0 && k <= MOST_RING ? starts[k] : 0;
        }

        private int end(int k) {
            return k >= 0 && k <= MOST_RING ? starts[k + 1] : 0;
        }

        private void build(int size) {
            if (builtSize == size) {
                return;
            }
            builtSize = size;
            findRising(size);
            sortByTones(size);
        }

        /** Going up, a set that is no image of an earlier one is the least of its own. */
        private void findRising(int size) {
            seen.clear();
            all = 0;
            for (int set = 0; set <= Ring.allTones(size); set++) {
                if (!seen.has(set) && all < MOST_FORMS) {
                    rising[all] = set;
                    all++;
                    addImages(set, size);
                }
            }
        }

        private void addImages(int set, int size) {
            int mirror = Ring.mirrored(set, size);
            for (int turn = 0; turn < size; turn++) {
                seen.add(Ring.turned(set, turn, size));
                seen.add(Ring.turned(mirror, turn, size));
            }
        }

        private void sortByTones(int size) {
            int spot = 0;
            for (int k = 0; k <= MOST_RING; k++) {
                starts[k] = spot;
                for (int i = 0; i < all && spot < MOST_FORMS; i++) {
                    if (Integer.bitCount(rising[i]) == k) {
                        sorted[spot] = rising[i];
                        rows[spot] = Ring.intervalRow(rising[i], size);
                        spot++;
                    }
                }
            }
            starts[MOST_RING + 1] = spot;
        }
    }

    /**
     * The least ways from set to set. One tone of the larger set (a goer) is picked for each tone of the
     * smaller (a goal), and all others go to the goal that is nearest to them: so a way is an assignment
     * of goers to goals, each at the price of what it goes beyond its nearest goal. The assignment is
     * found by growing prices, goal by goal. Goals and goers have numbers from 1 on; 0 is none.
     */
    private static final class Ways {
        private static final int SPOTS = MOST_RING + 1;

        int nearestNumber = 0;
        int nearestLength = 0;

        private int goals = 0;
        private int goers = 0;
        /** A bit for each goer. */
        private int reached = 0;
        private final int[] goalTones = new int[SPOTS];
        private final int[] goerTones = new int[SPOTS];
        private final int[] extra = new int[SPOTS * SPOTS];
        private final int[] goalPrices = new int[SPOTS];
        private final int[] goerPrices = new int[SPOTS];
        private final int[] goalOfGoer = new int[SPOTS];
        private final int[] cameFrom = new int[SPOTS];
        private final int[] slack = new int[SPOTS];

        /** Neither set is 0. */
        int least(int one, int other, int size) {
            boolean otherIsLarger = Integer.bitCount(one) < Integer.bitCount(other);
            goers = listTones(otherIsLarger ? other : one, goerTones);
            goals = listTones(otherIsLarger ? one : other, goalTones);
            int length = measure(size);
            Arrays.fill(goalPrices, 0);
            Arrays.fill(goerPrices, 0);
            Arrays.fill(goalOfGoer, 0);
            for (int goal = 1; goal <= goals; goal++) {
                int free = findFreeGoer(goal);
                passOn(free);
            }
            return length - goerPrices[0];
        }

        void findNearestImage(int from, int other, int size) {
            int mirror = Ring.mirrored(other, size);
            nearestNumber = 0;
            nearestLength = FAR;
            for (int number = 0; number < 2 * size && nearestLength > 0; number++) {
                int image = number < size ? Ring.turned(other, number, size) : Ring.turned(mirror, number - size, size);
                int length = least(from, image, size);
                if (length < nearestLength) {
                    nearestNumber = number;
                    nearestLength = length;
                }
            }
        }

        private int listTones(int set, int[] tones) {
            int count = 0;
            for (int tone = 0; tone < MOST_RING; tone++) {
                if ((set & (1 << tone)) != 0) {
                    count++;
                    tones[count] = tone;
                }
            }
            return count;
        }

        /** Answers what all goers go if each takes its nearest goal, and fills in what other goals cost beyond. */
        private int measure(int size) {
            int together = 0;
            for (int goer = 1; goer <= goers; goer++) {
                int near = FAR;
                for (int goal = 1; goal <= goals; goal++) {
                    int steps = Math.abs(goerTones[goer] - goalTones[goal]);
                    steps = Math.min(steps, size - steps);
                    extra[goal * SPOTS + goer] = steps;
                    near = Math.min(near, steps);
                }
                for (int goal = 1; goal <= goals; goal++) {
                    extra[goal * SPOTS + goer] -= near;
                }
                together += near;
            }
            return together;
        }

        /** Each step reaches one goer more, so there are no more steps than goers. */
        private int findFreeGoer(int goal) {
            Arrays.fill(slack, FAR);
            reached = 0;
            goalOfGoer[0] = goal;
            int goer = 0;
            for (int step = 0; step <= goers && goalOfGoer[goer] != 0; step++) {
                reached |= 1 << goer;
                int next = closestUnreached(goer);
                shiftPrices(slack[next]);
                goer = next;
            }
            return goer;
        }

        private boolean isReached(int goer) {
            return (reached & (1 << goer)) != 0;
        }

        private int closestUnreached(int goer) {
            int goal = goalOfGoer[goer];
            int closest = 0;
            for (int next = 1; next <= goers; next++) {
                if (isReached(next)) {
                    continue;
                }
                int gap = extra[goal * SPOTS + next] - goalPrices[goal] - goerPrices[next];
                if (gap < slack[next]) {
                    slack[next] = gap;
                    cameFrom[next] = goer;
                }
                if (closest == 0 || slack[next] < slack[closest]) {
                    closest = next;
                }
            }
            return closest;
        }

        private void shiftPrices(int shift) {
            for (int goer = 0; goer <= goers; goer++) {
                if (isReached(goer)) {
                    goalPrices[goalOfGoer[goer]] += shift;
                    goerPrices[goer] -= shift;
                } else {
                    slack[goer] -= shift;
                }
            }
        }

        /** Back along the steps, each goer gets the goal of the one ahead. */
        private void passOn(int free) {
            int goer = free;
            for (int step = 0; step <= goers && goer != 0; step++) {
                int ahead = cameFrom[goer];
                goalOfGoer[goer] = goalOfGoer[ahead];
                goer = ahead;
            }
        }
    }

    /** The least row of ways through all places. */
    private static final class Round {
        private static final int MOST_OTHERS = MOST_PLACES - 1;

        private int stops = 0;
        private final int[] stopSets = new int[MOST_PLACES];
        private final int[] lengths = new int[MOST_PLACES * MOST_PLACES];
        /** For each choice of stops behind the first, and each of these that comes last: the least so far. */
        private final int[] best = new int[(1 << MOST_OTHERS) * MOST_OTHERS];

        int least(Shelf shelf, Ways ways) {
            listStops(shelf);
            if (stops < 2) {
                return 0;
            }
            measure(shelf.size, ways);
            int others = stops - 1;
            int everyOther = (1 << others) - 1;
            for (int chosen = 1; chosen <= everyOther; chosen++) {
                for (int last = 0; last < others; last++) {
                    if ((chosen & (1 << last)) != 0) {
                        best[chosen * MOST_OTHERS + last] = leastTo(last, chosen & ~(1 << last), others);
                    }
                }
            }
            int least = best[everyOther * MOST_OTHERS];
            for (int last = 1; last < others; last++) {
                least = Math.min(least, best[everyOther * MOST_OTHERS + last]);
            }
            return least;
        }

        private void listStops(Shelf shelf) {
            stops = 0;
            for (int p = 0; p < shelf.places && p < MOST_PLACES; p++) {
                if (shelf.setAt(p) != 0) {
                    stopSets[stops] = shelf.setAt(p);
                    stops++;
                }
            }
        }

        private void measure(int size, Ways ways) {
            for (int i = 0; i < stops; i++) {
                for (int j = i + 1; j < stops; j++) {
                    int length = ways.least(stopSets[i], stopSets[j], size);
                    lengths[i * MOST_PLACES + j] = length;
                    lengths[j * MOST_PLACES + i] = length;
                }
            }
        }

        /** The others are numbered from 0 on, so that stop i + 1 is the other i. */
        private int leastTo(int last, int before, int others) {
            if (before == 0) {
                return lengths[last + 1];
            }
            int least = FAR;
            for (int other = 0; other < others; other++) {
                if ((before & (1 << other)) != 0) {
                    int length = best[before * MOST_OTHERS + other] + lengths[(other + 1) * MOST_PLACES + last + 1];
                    least = Math.min(least, length);
                }
            }
            return least;
        }
    }

    /**
     * Ways tone by tone, searched from their end. What a set costs to come to is the same from all sets next
     * to it; so, if sets are taken up by what is paid from them on with their own cost, the first that meets
     * a set is the best next one for it, and each set is met once.
     */
    private static final class Smooth {
        /** So many sets of 6 tones has a ring of 12, and there are no more of any other number. */
        private static final int MOST_SETS = 924;
        /** A power of 2 above all that one set can cost. */
        private static final int LISTS = 16;
        /** Far above what a way through every set costs. */
        private static final int MOST_COST = MOST_SETS * LISTS;

        int cost = 0;
        int next = NONE;

        private int met = 0;
        private final int[] sets = new int[MOST_SETS];
        private final int[] links = new int[MOST_SETS];
        private final int[] heads = new int[LISTS];
        private final Seen seen = new Seen();

        void search(int from, int to, int size) {
            cost = 0;
            next = NONE;
            if (from == to) {
                return;
            }
            met = 0;
            seen.clear();
            Arrays.fill(heads, NONE);
            meet(to, 0, size);
            for (int paid = 1; paid <= MOST_COST && next == NONE; paid++) {
                takeUp(paid, from, size);
            }
        }

        /** All of one list are looked at even when the way is found: another next set may be less. */
        private void takeUp(int paid, int from, int size) {
            int list = paid & (LISTS - 1);
            int spot = heads[list];
            heads[list] = NONE;
            for (int i = 0; i < MOST_SETS && spot >= 0 && spot < MOST_SETS; i++) {
                spread(sets[spot], paid, from, size);
                spot = links[spot];
            }
        }

        private void spread(int set, int paid, int from, int size) {
            for (int tone = 0; tone < size; tone++) {
                int upper = tone + 1 < size ? tone + 1 : 0;
                if (((set >> tone) & 1) == ((set >> upper) & 1)) {
                    continue;
                }
                int neighbour = set ^ (1 << tone) ^ (1 << upper);
                if (neighbour == from) {
                    next = next == NONE ? set : Math.min(next, set);
                    cost = paid;
                } else if (!seen.has(neighbour)) {
                    meet(neighbour, paid, size);
                }
            }
        }

        private void meet(int set, int paid, int size) {
            if (met >= MOST_SETS) {
                return;
            }
            int list = (paid + 1 + Ring.pairsApart(set, 1, size)) & (LISTS - 1);
            seen.add(set);
            sets[met] = set;
            links[met] = heads[list];
            heads[list] = met;
            met++;
        }
    }
}

import java.util.ArrayDeque;
import java.util.ArrayList;
import java.util.Arrays;
import java.util.Collections;
import java.util.HashSet;
import java.util.List;
import java.util.Map;
import java.util.Set;
import java.util.TreeMap;
import java.util.TreeSet;

/**
 * The document, as plainly as can be: the model knows no cleverness, it lists images, parts, ways and rows
 * one by one, as the document words them.
 */
final class Model {
    static final int UNKNOWN = -1000000001, OUTSIDE = -1000000002, NOT = -1000000003, FULL = -1000000004;
    int m = 12;
    List<Integer> sets = new ArrayList<>();
    long seed = 0;
    final List<int[]> book = new ArrayList<>();
    final ArrayDeque<Object[]> past = new ArrayDeque<>();
    final Object[][] images = new Object[2][];
    private static final Map<Integer, List<TreeSet<Integer>>> FORMS = new TreeMap<>();
    private static final Map<Integer, Integer> TWIN_PAIRS = new TreeMap<>();

    boolean has(int p) {
        return p >= 0 && p < sets.size();
    }

    List<Integer> tones(int set) {
        List<Integer> tones = new ArrayList<>();
        for (int t = 0; t < m; t++) {
            if ((set & 1 << t) != 0) {
                tones.add(t);
            }
        }
        return tones;
    }

    int image(int set, int i) {
        int image = 0;
        for (int t : tones(set)) {
            int x = i < m ? t : (m - t) % m;
            image |= 1 << (x + i) % m;
        }
        return image;
    }

    List<Integer> images(int set) {
        List<Integer> all = new ArrayList<>();
        for (int i = 0; i < 2 * m; i++) {
            all.add(image(set, i));
        }
        return all;
    }

    int form(int set) {
        return Collections.min(images(set));
    }

    int apart(int a, int b) {
        int up = ((a - b) % m + m) % m;
        int down = ((b - a) % m + m) % m;
        return Math.min(up, down);
    }

    int pairs(int set, int d) {
        int n = 0;
        for (int a : tones(set)) {
            for (int b : tones(set)) {
                if (a < b && apart(a, b) == d) {
                    n++;
                }
            }
        }
        return n;
    }

    List<Integer> intervals(int set) {
        List<Integer> row = new ArrayList<>();
        for (int d = 1; d <= m / 2; d++) {
            row.add(pairs(set, d));
        }
        return row;
    }

    List<TreeSet<Integer>> allForms() {
        if (!FORMS.containsKey(m)) {
            List<TreeSet<Integer>> byTones = new ArrayList<>();
            for (int k = 0; k <= m; k++) {
                byTones.add(new TreeSet<>());
            }
            for (int set = 0; set < 1 << m; set++) {
                byTones.get(Integer.bitCount(set)).add(form(set));
            }
            FORMS.put(m, byTones);
        }
        return FORMS.get(m);
    }

    int twins(int form) {
        int n = 0;
        List<Integer> row = intervals(form);
        for (int other : allForms().get(Integer.bitCount(form))) {
            if (other != form && intervals(other).equals(row)) {
                n++;
            }
        }
        return n;
    }

    int twinPairs() {
        if (!TWIN_PAIRS.containsKey(m)) {
            int n = 0;
            for (Set<Integer> forms : allForms()) {
                for (int form : forms) {
                    n += twins(form);
                }
            }
            TWIN_PAIRS.put(m, n / 2);
        }
        return TWIN_PAIRS.get(m);
    }

    /** Tone by tone of the larger, by which of the smaller have been gone to. */
    int least(int one, int other) {
        if (Integer.bitCount(one) < Integer.bitCount(other)) {
            return least(other, one);
        }
        List<Integer> from = tones(one);
        List<Integer> to = tones(other);
        int[] best = new int[1 << to.size()];
        Arrays.fill(best, 1 << 20);
        best[0] = 0;
        for (int a : from) {
            int[] then = new int[best.length];
            Arrays.fill(then, 1 << 20);
            for (int gone = 0; gone < best.length; gone++) {
                for (int j = 0; best[gone] < 1 << 20 && j < to.size(); j++) {
                    int with = gone | 1 << j;
                    then[with] = Math.min(then[with], best[gone] + apart(a, to.get(j)));
                }
            }
            best = then;
        }
        return best[best.length - 1];
    }

    int round() {
        List<Integer> stops = new ArrayList<>(sets);
        stops.removeIf(s -> s == 0);
        if (stops.size() < 2) {
            return 0;
        }
        int[][] gaps = new int[stops.size()][stops.size()];
        for (int i = 0; i < stops.size(); i++) {
            for (int j = 0; j < stops.size(); j++) {
                gaps[i][j] = least(stops.get(i), stops.get(j));
            }
        }
        return rows(gaps, 0, 1);
    }

    int rows(int[][] gaps, int last, int visited) {
        if (visited == (1 << gaps.length) - 1) {
            return 0;
        }
        int best = Integer.MAX_VALUE;
        for (int j = 0; j < gaps.length; j++) {
            if ((visited & 1 << j) == 0) {
                best = Math.min(best, gaps[last][j] + rows(gaps, j, visited | 1 << j));
            }
        }
        return best;
    }

    /** What it costs from each set on to the goal: bettered until nothing changes. */
    int[] easyCosts(int goal) {
        int[] cost = new int[1 << m];
        Arrays.fill(cost, 1 << 20);
        cost[goal] = 0;
        ArrayDeque<Integer> bettered = new ArrayDeque<>(List.of(goal));
        while (!bettered.isEmpty()) {
            int next = bettered.remove();
            int through = 1 + pairs1(next) + cost[next];
            // a step can be gone both ways
            for (int set : steps(next)) {
                if (through < cost[set]) {
                    cost[set] = through;
                    bettered.add(set);
                }
            }
        }
        return cost;
    }

    int pairs1(int set) {
        int n = 0;
        for (int t = 0; t < m; t++) {
            if ((set & 1 << t) != 0 && (set & 1 << (t + 1) % m) != 0) {
                n++;
            }
        }
        return n;
    }

    List<Integer> steps(int set) {
        List<Integer> all = new ArrayList<>();
        for (int t = 0; t < m; t++) {
            if ((set & 1 << t) != 0) {
                for (int to : new int[] {(t + 1) % m, (t + m - 1) % m}) {
                    if ((set & 1 << to) == 0) {
                        all.add(set & ~(1 << t) | 1 << to);
                    }
                }
            }
        }
        return all;
    }

    int told(int what) {
        switch (what) {
            case 0: return m;
            case 1: return sets.size();
            case 2: return allForms().stream().mapToInt(Set::size).sum();
            case 3: return twinPairs();
            case 4: return round();
            case 5:
                Set<Integer> unlike = new HashSet<>();
                for (int s : sets) {
                    unlike.add(form(s));
                }
                return unlike.size();
            case 6: return book.size();
            case 7: return wrongEntry();
            case 8: return past.size();
            case 9: return (int) seed;
            default: return OUTSIDE;
        }
    }

    int wrongEntry() {
        for (int i = 0; i < book.size(); i++) {
            int p = book.get(i)[0];
            if (!has(0) || !has(p) || sets.get(0) == 0 || sets.get(p) == 0
                    || least(sets.get(0), sets.get(p)) != book.get(i)[1]) {
                return i;
            }
        }
        return -1;
    }

    int at(int p, int what) {
        if (!has(p)) {
            return UNKNOWN;
        }
        int set = sets.get(p);
        switch (what) {
            case 0: return set;
            case 1: return tones(set).size();
            case 2: return form(set);
            case 3: return Collections.frequency(images(set), set);
            case 4: return images(set).indexOf(form(set));
            case 5: return twins(form(set));
            case 6: return allForms().get(tones(set).size()).headSet(form(set)).size();
            default: return OUTSIDE;
        }
    }

    int interval(int p, int d) {
        return !has(p) ? UNKNOWN : d < 1 || d > m / 2 ? OUTSIDE : pairs(sets.get(p), d);
    }

    int forms(int k) {
        return k < 0 || k > m ? OUTSIDE : allForms().get(k).size();
    }

    int formAt(int k, int i) {
        if (k < 0 || k > m) {
            return OUTSIDE;
        }
        List<Integer> forms = new ArrayList<>(allForms().get(k));
        return i < 0 || i >= forms.size() ? UNKNOWN : forms.get(i);
    }

    int inside(int p, int q) {
        if (!has(p) || !has(q)) {
            return UNKNOWN;
        }
        int form = form(sets.get(q));
        int n = 0;
        for (int part = 0; part < 1 << m; part++) {
            if ((part | sets.get(p)) == sets.get(p) && Integer.bitCount(part) == Integer.bitCount(form) && form(part) == form) {
                n++;
            }
        }
        return n;
    }

    int way(int p, int q) {
        if (!has(p) || !has(q)) {
            return UNKNOWN;
        }
        return sets.get(p) == 0 || sets.get(q) == 0 ? NOT : least(sets.get(p), sets.get(q));
    }

    int nearest(int p, int q, int what) {
        if (!has(p) || !has(q)) {
            return UNKNOWN;
        }
        if (what != 0 && what != 1) {
            return OUTSIDE;
        }
        if (sets.get(p) == 0 || sets.get(q) == 0) {
            return NOT;
        }
        List<Integer> lengths = new ArrayList<>();
        for (int image : images(sets.get(q))) {
            lengths.add(least(sets.get(p), image));
        }
        int shortest = Collections.min(lengths);
        return what == 1 ? shortest : lengths.indexOf(shortest);
    }

    int easy(int p, int q, int what) {
        if (!has(p) || !has(q)) {
            return UNKNOWN;
        }
        if (what != 0 && what != 1) {
            return OUTSIDE;
        }
        int from = sets.get(p);
        int to = sets.get(q);
        if (Integer.bitCount(from) != Integer.bitCount(to)) {
            return NOT;
        }
        int[] cost = easyCosts(to);
        if (what == 0) {
            return cost[from];
        }
        int least = Integer.MAX_VALUE;
        for (int next : steps(from)) {
            if (1 + pairs1(next) + cost[next] == cost[from]) {
                least = Math.min(least, next);
            }
        }
        return from == to ? -1 : least;
    }

    void deed() {
        past.addLast(new Object[] {m, new ArrayList<>(sets)});
        if (past.size() > 16) {
            past.removeFirst();
        }
    }

    int ring(int n) {
        if (n < 5 || n > 12) {
            return OUTSIDE;
        }
        deed();
        int was = m;
        m = n;
        sets.clear();
        return was;
    }

    int put(int set) {
        if (set < 0 || set >= 1 << m) {
            return OUTSIDE;
        }
        if (sets.size() >= 8) {
            return FULL;
        }
        deed();
        sets.add(set);
        return sets.size() - 1;
    }

    int change(int p, int kind, int v) {
        if (!has(p)) {
            return UNKNOWN;
        }
        boolean tone = v >= 0 && v < m;
        if (kind < 0 || kind > 5 || (kind == 0 || kind == 4) && !tone || kind == 2 && (!tone || v == 0)) {
            return OUTSIDE;
        }
        if (kind == 2) {
            for (int d = 2; d <= 12; d++) {
                if (v % d == 0 && m % d == 0) {
                    return NOT;
                }
            }
        }
        int set = sets.get(p);
        int then = 0;
        for (int t = 0; t < m; t++) {
            boolean in = (set & 1 << t) != 0;
            if (kind == 0 && in) {
                then |= 1 << (t + v) % m;
            } else if (kind == 1 && in) {
                then |= 1 << (m - t) % m;
            } else if (kind == 2 && in) {
                then |= 1 << t * v % m;
            } else if (kind == 3 && !in) {
                then |= 1 << t;
            } else if (kind == 4 && in != (t == v)) {
                then |= 1 << t;
            }
        }
        if (kind == 5) {
            then = form(set);
        }
        deed();
        sets.set(p, then);
        return then;
    }

    int join(int p, int q, int kind) {
        if (!has(p) || !has(q)) {
            return UNKNOWN;
        }
        if (kind < 0 || kind > 3) {
            return OUTSIDE;
        }
        Set<Integer> first = new TreeSet<>(tones(sets.get(p)));
        Set<Integer> second = new TreeSet<>(tones(sets.get(q)));
        int then = 0;
        for (int t = 0; t < m; t++) {
            boolean a = first.contains(t);
            boolean b = second.contains(t);
            boolean in = kind == 0 ? a && b : kind == 1 ? a || b : kind == 2 ? a != b : a && !b;
            then |= in ? 1 << t : 0;
        }
        deed();
        sets.set(p, then);
        return then;
    }

    int swap(int p, int q) {
        if (!has(p) || !has(q)) {
            return UNKNOWN;
        }
        deed();
        Collections.swap(sets, p, q);
        return form(sets.get(p)) == form(sets.get(q)) ? 0 : 1;
    }

    int take(int p) {
        if (!has(p)) {
            return UNKNOWN;
        }
        deed();
        sets.remove(p);
        return sets.size();
    }

    int drift(int n) {
        if (n < 1 || n > 8) {
            return OUTSIDE;
        }
        for (int i = 0; i < n; i++) {
            if (sets.size() < 8) {
                deed();
                seed = (seed * 1103515245L + 12345L) % 2147483648L;
                sets.add((int) (seed / 65536 % (1 << m)));
            }
        }
        return sets.size();
    }

    @SuppressWarnings("unchecked")
    int undo(int n) {
        if (n < 1 || n > 16) {
            return OUTSIDE;
        }
        if (n > past.size()) {
            return NOT;
        }
        for (int i = 0; i < n; i++) {
            Object[] before = past.removeLast();
            m = (Integer) before[0];
            sets = new ArrayList<>((List<Integer>) before[1]);
        }
        return sets.size();
    }

    int write(int p, int v) {
        if (!has(p)) {
            return UNKNOWN;
        }
        if (book.size() >= 20) {
            return FULL;
        }
        book.add(new int[] {p, v});
        return book.size();
    }

    int tear() {
        int had = book.size();
        book.clear();
        return had;
    }

    int seed(int v) {
        if (v < 0) {
            return OUTSIDE;
        }
        int was = (int) seed;
        seed = v;
        return was;
    }

    int keep(int i) {
        if (i < 0 || i > 1) {
            return UNKNOWN;
        }
        images[i] = new Object[] {m, new ArrayList<>(sets), seed};
        past.clear();
        return 1;
    }

    @SuppressWarnings("unchecked")
    int goBack(int i) {
        if (i < 0 || i > 1) {
            return UNKNOWN;
        }
        if (images[i] == null) {
            return NOT;
        }
        m = (Integer) images[i][0];
        sets = new ArrayList<>((List<Integer>) images[i][1]);
        seed = (Long) images[i][2];
        past.clear();
        return 1;
    }
}

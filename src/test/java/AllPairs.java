import java.util.stream.IntStream;

/**
 * Every set of every ring alone, and every pair of sets, against tables that the plain model fills. In the rings
 * above WHOLE one set of the pair is a form, as all pairs would take minutes: the argument "all", behind the
 * program's path, has them all asked.
 */
public final class AllPairs extends Checks {
    private static final int WHOLE = 9;
    /** So many pairs are asked about before another object comes: no object is used for more than 512 calls. */
    private static final int PAIRS_OF_OBJECT = 60;
    /** One fault may show in a million pairs; so many of them are told. */
    private static final int MOST_TOLD = 50;
    private static int told = 0;

    private final int m;
    private final int sets;
    private final Model model = new Model();
    private final int[][] images;
    private final int[] forms;
    private final int[] toForms;
    /** By a form and any set; the ways of other sets are those of their forms, as turns and mirrors change no length. */
    private final int[][] waysOfForms;

    private AllPairs(int m) {
        this.m = m;
        sets = 1 << m;
        model.m = m;
        images = new int[sets][2 * m];
        forms = new int[sets];
        toForms = new int[sets];
        waysOfForms = new int[sets][];
    }

    public static void main(String[] args) {
        boolean all = args.length > 1 && args[1].equals("all");
        for (int m = LEAST_M; m <= MOST_M; m++) {
            new AllPairs(m).compare(all || m <= WHOLE);
        }
        end("all pairs");
    }

    private void compare(boolean whole) {
        IntStream.range(0, sets).forEach(this::fillImages);
        IntStream.range(0, sets).forEach(this::compareAlone);
        IntStream.range(1, sets).parallel().filter(set -> forms[set] == set).forEach(this::fillWays);
        says("INSIDE, WAY, NEAREST, EASY");
        IntStream.range(0, sets).parallel().filter(set -> whole || forms[set] == set).forEach(this::compareWithAll);
    }

    private void fillImages(int set) {
        forms[set] = model.form(set);
        for (int number = 2 * m - 1; number >= 0; number--) {
            images[set][number] = model.image(set, number);
            if (images[set][number] == forms[set]) {
                toForms[set] = number;
            }
        }
    }

    private void fillWays(int form) {
        waysOfForms[form] = new int[sets];
        for (int set = 1; set < sets; set++) {
            waysOfForms[form][set] = model.least(form, set);
        }
    }

    private int way(int one, int other) {
        return waysOfForms[forms[one]][images[other][toForms[one]]];
    }

    private void compareAlone(int set) {
        says("ring " + m + ", set " + set);
        ToneSets x = shelf(m, set);
        Model plain = new Model();
        plain.ring(m);
        plain.put(set);
        for (int what = 0; what < 7; what++) {
            due("at(0, " + what + ")", x.at(0, what), plain.at(0, what));
        }
        for (int d = 1; d <= m / 2; d++) {
            due("interval(0, " + d + ")", x.interval(0, d), plain.interval(0, d));
        }
        for (int kind = 0; kind < 6; kind++) {
            for (int v = 0; v < m; v++) {
                int got = x.change(0, kind, v);
                due("change(0, " + kind + ", " + v + ")", got, plain.change(0, kind, v));
                if (got >= 0) {
                    due("undo(1)", x.undo(1), plain.undo(1));
                }
            }
        }
    }

    private void compareWithAll(int one) {
        int[] parts = countParts(one);
        int[] costs = model.easyCosts(one);
        ToneSets x = null;
        for (int other = 0; other < sets; other++) {
            if (other % PAIRS_OF_OBJECT == 0) {
                x = shelf(m, one);
            }
            x.put(other);
            same("inside", one, other, x.inside(0, 1), parts[forms[other]]);
            compareWays(x, one, other);
            compareEasy(x, other, one, costs);
            x.take(1);
        }
    }

    private int[] countParts(int set) {
        int[] counts = new int[sets];
        for (int part = 0; part < sets; part++) {
            if ((part & set) == part) {
                counts[forms[part]]++;
            }
        }
        return counts;
    }

    private void compareWays(ToneSets x, int one, int other) {
        if (one == 0 || other == 0) {
            same("way", one, other, x.way(0, 1), NOT);
            same("nearest 0", one, other, x.nearest(0, 1, 0), NOT);
            same("nearest 1", one, other, x.nearest(0, 1, 1), NOT);
            return;
        }
        int nearest = 0;
        for (int number = 1; number < 2 * m; number++) {
            if (way(one, images[other][number]) < way(one, images[other][nearest])) {
                nearest = number;
            }
        }
        same("way", one, other, x.way(0, 1), way(one, other));
        same("nearest 0", one, other, x.nearest(0, 1, 0), nearest);
        same("nearest 1", one, other, x.nearest(0, 1, 1), way(one, images[other][nearest]));
    }

    /** From PLACE 1 to PLACE 0, as the costs are those from each set on to the one at PLACE 0. */
    private void compareEasy(ToneSets x, int from, int to, int[] costs) {
        boolean asMany = Integer.bitCount(from) == Integer.bitCount(to);
        same("easy 0", from, to, x.easy(1, 0, 0), asMany ? costs[from] : NOT);
        same("easy 1", from, to, x.easy(1, 0, 1), asMany ? leastNext(from, to, costs) : NOT);
    }

    private int leastNext(int from, int to, int[] costs) {
        int least = NONE;
        if (from != to) {
            for (int next : model.steps(from)) {
                boolean isEasy = 1 + model.pairs1(next) + costs[next] == costs[from];
                if (isEasy && (least == NONE || next < least)) {
                    least = next;
                }
            }
        }
        return least;
    }

    /** The words are joined only for a wrong answer: there are millions of right ones. */
    private void same(String what, int one, int other, int got, int want) {
        if (got != want) {
            tellWrong("ring " + m + ", sets " + one + " and " + other + ": " + what, got, want);
        }
    }

    private static synchronized void tellWrong(String call, int got, int want) {
        if (told < MOST_TOLD) {
            told++;
            due(call, got, want);
        }
    }
}

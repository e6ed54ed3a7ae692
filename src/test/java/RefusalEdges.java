import java.util.function.Supplier;
import java.util.function.ToIntFunction;

/**
 * Each refused call, in states that are empty, in use, small and full: which refusal comes first, and that
 * what is refused, and what is only asked, changes nothing that later calls could tell.
 */
public final class RefusalEdges extends Checks {
    private static final int[] NUMBERS = {MIN, UNKNOWN, -1, 0, 1, 2, 3, 5, 6, 7, 8, 9, 12, 13, 17, 4096, MAX};
    private static final int[] NO_IMAGES = {MIN, UNKNOWN, -1, 2, 3, MAX};

    private static Supplier<ToneSets> maker;
    private static String before;
    private static int places;

    public static void main(String[] args) {
        inState("a new object", ToneSets::new);
        inState("an object in use", RefusalEdges::inUse);
        inState("a small ring", RefusalEdges::smallRing);
        inState("a full object", RefusalEdges::full);
        end("refusal edges");
    }

    private static void inState(String name, Supplier<ToneSets> make) {
        System.out.println("refusal edges: " + name);
        maker = make;
        before = allThatCanBeTold(make.get());
        places = make.get().told(1);
        unknownPlaces();
        unknownPairsOfPlaces();
        unknownForms();
        unknownImages();
        outsideAlone();
        outsideBesidePlaces();
        outsideBesidePairs();
        notNow();
        fullShelfAndBook();
        askedChangesNothing();
    }

    // ---- states

    private static ToneSets inUse() {
        ToneSets x = shelf(12, 1, 5, 0, 2741);
        x.seed(77);
        x.keep(0);
        x.drift(1);
        x.change(1, 4, 7);
        x.take(4);
        x.write(0, 0);
        x.write(1, x.way(0, 1));
        return x;
    }

    private static ToneSets smallRing() {
        ToneSets x = shelf(5, 31, 0, 3);
        x.keep(1);
        x.swap(0, 2);
        x.write(2, x.way(0, 2));
        return x;
    }

    private static ToneSets full() {
        ToneSets x = shelf(12, 1, 0, 2, 4095, 145);
        x.keep(0);
        x.seed(2147483647);
        x.drift(8);
        x.keep(1);
        int length = x.way(0, 3);
        for (int i = 0; i < 20; i++) {
            x.change(2, 0, 1);
            x.write(3, length);
        }
        return x;
    }

    // ---- what can be told

    private static String allThatCanBeTold(ToneSets x) {
        StringBuilder told = new StringBuilder();
        tellWhatIsSo(x, told);
        for (int i = 0; i < 17; i++) {
            told.append(" undo ").append(x.undo(1));
            tellShelf(x, told);
        }
        for (int image = 0; image < 2; image++) {
            told.append(" image ").append(x.goBack(image));
            tellWhatIsSo(x, told);
        }
        told.append(" book ").append(x.tear());
        return told.toString();
    }

    private static void tellWhatIsSo(ToneSets x, StringBuilder told) {
        for (int what = 0; what < 10; what++) {
            told.append(' ').append(x.told(what));
        }
        tellShelf(x, told);
    }

    private static void tellShelf(ToneSets x, StringBuilder told) {
        told.append(" ring ").append(x.told(0)).append(':');
        int count = x.told(1);
        for (int p = 0; p < count; p++) {
            told.append(' ').append(x.at(p, 0));
        }
        told.append(" seed ").append(x.told(9)).append(" wrong ").append(x.told(7));
    }

    private static void refused(String call, ToIntFunction<ToneSets> make, int want) {
        ToneSets x = maker.get();
        says("REFUSALS, of several the first in this order: UNKNOWN .. OUTSIDE .. NOT .. FULL.");
        due(call, make.applyAsInt(x), want);
        says("What is refused changes nothing.");
        due("what is so behind " + call, allThatCanBeTold(x), before);
    }

    private static boolean isPlace(int p) {
        return p >= 0 && p < places;
    }

    // ---- UNKNOWN, whatever else is wrong

    private static void unknownPlaces() {
        for (int p : NUMBERS) {
            if (isPlace(p)) {
                continue;
            }
            refused("take(" + p + ")", x -> x.take(p), UNKNOWN);
            for (int v : NUMBERS) {
                refused("at(" + p + ", " + v + ")", x -> x.at(p, v), UNKNOWN);
                refused("interval(" + p + ", " + v + ")", x -> x.interval(p, v), UNKNOWN);
                refused("write(" + p + ", " + v + ")", x -> x.write(p, v), UNKNOWN);
                for (int kind = -1; kind <= 6; kind++) {
                    int k = kind;
                    refused("change(" + p + ", " + k + ", " + v + ")", x -> x.change(p, k, v), UNKNOWN);
                }
            }
        }
    }

    private static void unknownPairsOfPlaces() {
        for (int p : NUMBERS) {
            for (int q : NUMBERS) {
                if (isPlace(p) && isPlace(q)) {
                    continue;
                }
                refused("inside(" + p + ", " + q + ")", x -> x.inside(p, q), UNKNOWN);
                refused("way(" + p + ", " + q + ")", x -> x.way(p, q), UNKNOWN);
                refused("swap(" + p + ", " + q + ")", x -> x.swap(p, q), UNKNOWN);
                for (int n : new int[] {MIN, -1, 0, 1, 2, 4, MAX}) {
                    refused("nearest(" + p + ", " + q + ", " + n + ")", x -> x.nearest(p, q, n), UNKNOWN);
                    refused("easy(" + p + ", " + q + ", " + n + ")", x -> x.easy(p, q, n), UNKNOWN);
                    refused("join(" + p + ", " + q + ", " + n + ")", x -> x.join(p, q, n), UNKNOWN);
                }
            }
        }
    }

    private static void unknownForms() {
        int m = maker.get().told(0);
        for (int k = 0; k <= m; k++) {
            int tones = k;
            int last = maker.get().forms(k);
            for (int i : new int[] {MIN, UNKNOWN, -1, last, last + 1, 4096, MAX}) {
                refused("formAt(" + k + ", " + i + ")", x -> x.formAt(tones, i), UNKNOWN);
            }
        }
    }

    private static void unknownImages() {
        for (int i : NO_IMAGES) {
            refused("keep(" + i + ")", x -> x.keep(i), UNKNOWN);
            refused("goBack(" + i + ")", x -> x.goBack(i), UNKNOWN);
        }
    }

    // ---- OUTSIDE, ahead of NOT and FULL

    private static void outsideAlone() {
        int m = maker.get().told(0);
        for (int n : new int[] {MIN, UNKNOWN, NOT, -1, 10, 11, 4096, MAX}) {
            refused("told(" + n + ")", x -> x.told(n), OUTSIDE);
        }
        for (int k : new int[] {MIN, UNKNOWN, -1, m + 1, m + 2, 4096, MAX}) {
            refused("forms(" + k + ")", x -> x.forms(k), OUTSIDE);
            for (int i : NUMBERS) {
                refused("formAt(" + k + ", " + i + ")", x -> x.formAt(k, i), OUTSIDE);
            }
        }
        for (int n : new int[] {MIN, UNKNOWN, -1, 0, 4, 13, 4096, MAX}) {
            refused("ring(" + n + ")", x -> x.ring(n), OUTSIDE);
        }
        for (int set : new int[] {MIN, UNKNOWN, -1, 1 << m, (1 << m) + 1, 65536, MAX}) {
            refused("put(" + set + ")", x -> x.put(set), OUTSIDE);
        }
        for (int n : new int[] {MIN, UNKNOWN, -1, 0, 9, 10, MAX}) {
            refused("drift(" + n + ")", x -> x.drift(n), OUTSIDE);
        }
        for (int n : new int[] {MIN, UNKNOWN, -1, 0, 17, 18, MAX}) {
            refused("undo(" + n + ")", x -> x.undo(n), OUTSIDE);
        }
        for (int v : new int[] {MIN, UNKNOWN, NOT, -2, -1}) {
            refused("seed(" + v + ")", x -> x.seed(v), OUTSIDE);
        }
    }

    private static void outsideBesidePlaces() {
        int m = maker.get().told(0);
        for (int place = 0; place < places; place++) {
            int p = place;
            for (int what : new int[] {MIN, UNKNOWN, -1, 7, 8, MAX}) {
                refused("at(" + p + ", " + what + ")", x -> x.at(p, what), OUTSIDE);
            }
            for (int d : new int[] {MIN, UNKNOWN, -1, 0, m / 2 + 1, m, MAX}) {
                refused("interval(" + p + ", " + d + ")", x -> x.interval(p, d), OUTSIDE);
            }
            for (int kind : new int[] {MIN, UNKNOWN, -1, 6, 7, MAX}) {
                refused("change(" + p + ", " + kind + ", 2)", x -> x.change(p, kind, 2), OUTSIDE);
            }
            for (int v : new int[] {MIN, UNKNOWN, -1, m, m + 1, 2 * m, 4096, MAX}) {
                refused("change(" + p + ", 0, " + v + ")", x -> x.change(p, 0, v), OUTSIDE);
                refused("change(" + p + ", 2, " + v + ")", x -> x.change(p, 2, v), OUTSIDE);
                refused("change(" + p + ", 4, " + v + ")", x -> x.change(p, 4, v), OUTSIDE);
            }
            refused("change(" + p + ", 2, 0)", x -> x.change(p, 2, 0), OUTSIDE);
        }
    }

    private static void outsideBesidePairs() {
        for (int one = 0; one < places; one++) {
            for (int other = 0; other < places; other++) {
                int p = one;
                int q = other;
                for (int n : new int[] {MIN, UNKNOWN, NOT, -1, 4, MAX}) {
                    refused("join(" + p + ", " + q + ", " + n + ")", x -> x.join(p, q, n), OUTSIDE);
                }
                for (int n : new int[] {MIN, UNKNOWN, NOT, -1, 2, 3, MAX}) {
                    refused("nearest(" + p + ", " + q + ", " + n + ")", x -> x.nearest(p, q, n), OUTSIDE);
                    refused("easy(" + p + ", " + q + ", " + n + ")", x -> x.easy(p, q, n), OUTSIDE);
                }
            }
        }
    }

    // ---- NOT

    private static void notNow() {
        ToneSets as = maker.get();
        int m = as.told(0);
        for (int n = as.told(8) + 1; n <= 16; n++) {
            int deeds = n;
            refused("undo(" + n + ")", x -> x.undo(deeds), NOT);
        }
        for (int place = 0; place < places; place++) {
            int p = place;
            for (int v = 1; v < m; v++) {
                int factor = v;
                if (haveCommonDivisor(v, m)) {
                    refused("change(" + p + ", 2, " + v + ")", x -> x.change(p, 2, factor), NOT);
                }
            }
            for (int other = 0; other < places; other++) {
                notForPair(p, other, as.at(p, 0), as.at(other, 0));
            }
        }
        for (int i = 0; i < 2; i++) {
            int image = i;
            if (maker.get().goBack(i) != 1) {
                refused("goBack(" + i + ")", x -> x.goBack(image), NOT);
            }
        }
    }

    private static void notForPair(int p, int q, int one, int other) {
        for (int n = 0; n < 2; n++) {
            int what = n;
            if (one == 0 || other == 0) {
                refused("way(" + p + ", " + q + ")", x -> x.way(p, q), NOT);
                refused("nearest(" + p + ", " + q + ", " + n + ")", x -> x.nearest(p, q, what), NOT);
            }
            if (Integer.bitCount(one) != Integer.bitCount(other)) {
                refused("easy(" + p + ", " + q + ", " + n + ")", x -> x.easy(p, q, what), NOT);
            }
        }
    }

    // ---- FULL

    private static void fullShelfAndBook() {
        if (places == 8) {
            for (int set : new int[] {0, 1, 4095}) {
                refused("put(" + set + ")", x -> x.put(set), FULL);
            }
        }
        if (maker.get().told(6) == 20) {
            for (int v : NUMBERS) {
                refused("write(0, " + v + ")", x -> x.write(0, v), FULL);
                refused("write(7, " + v + ")", x -> x.write(7, v), FULL);
            }
        }
    }

    // ---- what is asked

    private static void askedChangesNothing() {
        says("ASKED, nothing changes by it.");
        for (int n = 0; n < 13; n++) {
            ToneSets x = maker.get();
            askAll(x, n);
            due("what is so behind all that is asked, " + n, allThatCanBeTold(x), before);
        }
    }

    private static void askAll(ToneSets x, int n) {
        int p = places == 0 ? 0 : n % places;
        x.told(n);
        x.forms(n);
        x.formAt(n, 0);
        for (int q = 0; q < 8; q++) {
            x.at(p, q);
            x.interval(p, q);
            x.inside(p, q);
            x.way(p, q);
            x.nearest(p, q, n % 2);
            x.easy(p, q, n % 2);
        }
    }
}

/** The edges of promises 1 to 10, a new object and what is so: one test for each sentence. */
public final class AskedEdges extends Checks {
    public static void main(String[] args) {
        newObject();
        newObjectsAreApart();
        toldBounds();
        toldAllForms();
        toldTwinPairs();
        toldFormsFollowTheRing();
        toldUnlikeForms();
        toldEntries();
        toldWrongOfNone();
        toldUndoable();
        toldSeed();
        atBounds();
        atPlaces();
        atFirstImageThatIsForm();
        atTwins();
        atNumberOfForm();
        intervalBounds();
        intervalPlaces();
        formsBounds();
        formAtUnknown();
        formAtOutside();
        formAtOutsideAheadOfUnknown();
        insidePlaces();
        wayPlaces();
        wayOfNought();
        nearestPlaces();
        nearestBounds();
        nearestOfNought();
        easyPlaces();
        easyBounds();
        easyNextOfAlike();
        easyLeastNext();
        easyOfUnlikeMany();
        end("asked edges");
    }

    // ---- promise 1

    private static void newObject() {
        says("Nothing on THE SHELF.");
        ToneSets x = new ToneSets();
        int[] want = {12, 0, 224, 23, 0, 0, 0, NONE, 0, 0};
        for (int what = 0; what < want.length; what++) {
            due("told(" + what + ")", x.told(what), want[what]);
        }
        due("at(0, 0)", x.at(0, 0), UNKNOWN);
        due("take(0)", x.take(0), UNKNOWN);
        due("undo(1)", x.undo(1), NOT);
        due("goBack(0)", x.goBack(0), NOT);
        due("goBack(1)", x.goBack(1), NOT);
    }

    private static void newObjectsAreApart() {
        says("A new object");
        ToneSets x = new ToneSets();
        ToneSets y = new ToneSets();
        x.ring(5);
        x.seed(9);
        x.put(3);
        x.write(0, 0);
        x.keep(0);
        int[] want = {12, 0, 224, 23, 0, 0, 0, NONE, 0, 0};
        for (int what = 0; what < want.length; what++) {
            due("told(" + what + ") of another", y.told(what), want[what]);
        }
        due("goBack(0) of another", y.goBack(0), NOT);
    }

    // ---- promise 2

    private static void toldBounds() {
        says("0 M, 1 PLACES, .. 9 THE SEED. OUTSIDE.");
        ToneSets x = shelf(7, 1, 3);
        x.seed(5);
        due("told(0), the least", x.told(0), 7);
        due("told(9), the largest", x.told(9), 5);
        due("told(-1)", x.told(-1), OUTSIDE);
        due("told(10)", x.told(10), OUTSIDE);
        for (int what : FAR_OFF) {
            due("told(" + what + ")", x.told(what), OUTSIDE);
        }
    }

    private static void toldAllForms() {
        says("2 all FORMS (of 0 to M TONES)");
        int[] all = {8, 13, 18, 30, 46, 78, 126, 224};
        for (int m = LEAST_M; m <= MOST_M; m++) {
            ToneSets x = shelf(m);
            int together = 0;
            for (int k = 0; k <= m; k++) {
                together += x.forms(k);
            }
            due("told(2) in a ring of " + m, x.told(2), all[m - LEAST_M]);
            due("forms of 0 to " + m, together, all[m - LEAST_M]);
        }
    }

    private static void toldTwinPairs() {
        says("3 TWIN FORMS: pairs");
        int[] pairs = {0, 0, 0, 1, 0, 3, 0, 23};
        for (int m = LEAST_M; m <= MOST_M; m++) {
            due("told(3) in a ring of " + m, shelf(m).told(3), pairs[m - LEAST_M]);
        }
    }

    private static void toldFormsFollowTheRing() {
        says("M, THE SHELF are as ahead of them");
        ToneSets x = new ToneSets();
        due("told(2) at first", x.told(2), 224);
        x.keep(0);
        x.ring(8);
        due("told(2) in the smaller ring", x.told(2), 30);
        due("forms(4) in the smaller ring", x.forms(4), 8);
        x.ring(5);
        x.undo(1);
        due("told(3) when the last ring is undone", x.told(3), 1);
        due("formAt(8, 0) when the last ring is undone", x.formAt(8, 0), 255);
        x.goBack(0);
        due("told(3) when the first is back", x.told(3), 23);
        due("forms(6) when the first is back", x.forms(6), 50);
    }

    private static void toldUnlikeForms() {
        says("5 unlike FORMS on THE SHELF");
        due("none", shelf(12).told(5), 0);
        due("the set 0 has a form", shelf(12, 0).told(5), 1);
        due("all are alike", shelf(12, 1, 2, 4, 8, 16, 2048, 1, 1024).told(5), 1);
        due("all are unlike", shelf(12, 0, 1, 3, 5, 7, 9, 11, 4095).told(5), 8);
        due("a mirror is alike", shelf(12, set(0, 1, 3), set(0, 2, 3)).told(5), 1);
        due("twins are unlike", shelf(12, set(0, 1, 4, 6), set(0, 1, 3, 7)).told(5), 2);
    }

    private static void toldEntries() {
        says("6 entries of THE BOOK");
        ToneSets x = shelf(12, 1);
        due("none", x.told(6), 0);
        for (int i = 1; i <= 20; i++) {
            x.write(0, 0);
            due("after " + i, x.told(6), i);
        }
    }

    private static void toldWrongOfNone() {
        says("WRONG: the first that is otherwise now .. NONE");
        ToneSets x = shelf(12, 1, 4);
        due("an empty book", x.told(7), NONE);
        x.write(0, 0);
        x.write(1, 2);
        due("all are right", x.told(7), NONE);
    }

    private static void toldUndoable() {
        says("8 how many can be undone");
        ToneSets x = new ToneSets();
        for (int i = 0; i <= 20; i++) {
            due("after " + i + " deeds", x.told(8), Math.min(i, 16));
            x.ring(12);
        }
    }

    private static void toldSeed() {
        says("9 THE SEED");
        ToneSets x = new ToneSets();
        due("at first", x.told(9), 0);
        x.seed(MAX);
        due("the largest", x.told(9), MAX);
        x.seed(0);
        due("the least", x.told(9), 0);
    }

    // ---- promise 3

    private static void atBounds() {
        says("Of the SET at a PLACE: what = 0 it, .. 6 the number of its FORM .. OUTSIDE.");
        ToneSets x = shelf(12, set(0, 4, 8));
        due("at(0, 0), the least", x.at(0, 0), 273);
        due("at(0, 6), the largest", x.at(0, 6), 11);
        due("at(0, -1)", x.at(0, -1), OUTSIDE);
        due("at(0, 7)", x.at(0, 7), OUTSIDE);
        for (int what : FAR_OFF) {
            due("at(0, " + what + ")", x.at(0, what), OUTSIDE);
        }
    }

    private static void atPlaces() {
        says("Of the SET at a PLACE .. UNKNOWN");
        ToneSets x = shelf(12, 1, 3, 7);
        for (int what = 0; what < 7; what++) {
            due("at(-1, " + what + ")", x.at(-1, what), UNKNOWN);
            due("at(3, " + what + ")", x.at(3, what), UNKNOWN);
        }
        due("the first", x.at(0, 1), 1);
        due("the last", x.at(2, 1), 3);
        for (int p : FAR_OFF) {
            due("at(" + p + ", 0)", x.at(p, 0), UNKNOWN);
        }
    }

    private static void atFirstImageThatIsForm() {
        says("4 the number of the first of the IMAGES OF it that is its FORM");
        for (int m = LEAST_M; m <= MOST_M; m++) {
            ToneSets x = shelf(m, 0, allTones(m), set(m - 1), set(1), set(0, m - 1));
            due("of none, ring of " + m, x.at(0, 4), 0);
            due("of all, ring of " + m, x.at(1, 4), 0);
            due("of the last tone, ring of " + m, x.at(2, 4), 1);
            due("of tone 1, ring of " + m, x.at(3, 4), m - 1);
            due("over the last tone, ring of " + m, x.at(4, 4), 1);
        }
        ToneSets x = shelf(12, set(0, 3, 6, 9), set(2, 5, 8, 11));
        due("that is its own form by four turns", x.at(0, 4), 0);
        due("the first of four turns", x.at(1, 4), 1);
    }

    private static void atTwins() {
        says("5 TWIN FORMS of its FORM (how many)");
        ToneSets x = shelf(8, set(0, 1, 2, 5), set(0, 1, 3, 4), 0, 255, set(3, 4, 5, 0), set(0, 1, 2, 3));
        int[] want = {1, 1, 0, 0, 1, 0};
        for (int p = 0; p < want.length; p++) {
            due("of " + x.at(p, 0) + " in a ring of 8", x.at(p, 5), want[p]);
        }
    }

    private static void atNumberOfForm() {
        says("6 the number of its FORM among those of as many TONES");
        ToneSets x = shelf(12, 0, 4095, set(11), set(6, 7, 8, 9, 10, 11), set(1, 3, 5, 7, 9, 11), 4094);
        int[] want = {0, 0, 0, 0, 49, 0};
        for (int p = 0; p < want.length; p++) {
            due("of " + x.at(p, 0), x.at(p, 6), want[p]);
        }
    }

    // ---- promise 4

    private static void intervalBounds() {
        says("OUTSIDE (1 .. M / 2).");
        for (int m = LEAST_M; m <= MOST_M; m++) {
            ToneSets x = shelf(m, allTones(m));
            due("d 0 in a ring of " + m, x.interval(0, 0), OUTSIDE);
            due("d 1 in a ring of " + m, x.interval(0, 1), m);
            due("d M / 2 in a ring of " + m, x.interval(0, m / 2), m % 2 == 0 ? m / 2 : m);
            due("d M / 2 and 1 in a ring of " + m, x.interval(0, m / 2 + 1), OUTSIDE);
            due("d -1 in a ring of " + m, x.interval(0, -1), OUTSIDE);
            for (int d : FAR_OFF) {
                due("d " + d + " in a ring of " + m, x.interval(0, d), OUTSIDE);
            }
        }
    }

    private static void intervalPlaces() {
        says("How many pairs of TONES of the SET at a PLACE are d APART. UNKNOWN");
        ToneSets x = shelf(12, 3, 7);
        due("the first", x.interval(0, 1), 1);
        due("the last", x.interval(1, 1), 2);
        due("below", x.interval(-1, 1), UNKNOWN);
        due("above", x.interval(2, 1), UNKNOWN);
        for (int p : FAR_OFF) {
            due("place " + p, x.interval(p, 1), UNKNOWN);
        }
    }

    // ---- promise 5

    private static void formsBounds() {
        says("How many FORMS of k TONES there are. OUTSIDE (0 .. M).");
        for (int m = LEAST_M; m <= MOST_M; m++) {
            ToneSets x = shelf(m);
            due("k -1 in a ring of " + m, x.forms(-1), OUTSIDE);
            due("k 0 in a ring of " + m, x.forms(0), 1);
            due("k M in a ring of " + m, x.forms(m), 1);
            due("k M and 1 in a ring of " + m, x.forms(m + 1), OUTSIDE);
            for (int k : FAR_OFF) {
                due("k " + k + " in a ring of " + m, x.forms(k), OUTSIDE);
            }
        }
    }

    // ---- promise 6

    private static void formAtUnknown() {
        says("FORM i of k TONES. UNKNOWN (i)");
        for (int m = LEAST_M; m <= MOST_M; m++) {
            ToneSets x = shelf(m);
            for (int k = 0; k <= m; k++) {
                due("formAt(" + k + ", -1) in a ring of " + m, x.formAt(k, -1), UNKNOWN);
                due("the first of " + k + " in a ring of " + m, x.formAt(k, 0), allTones(k));
                due("behind the last of " + k + " in a ring of " + m, x.formAt(k, x.forms(k)), UNKNOWN);
            }
            for (int i : FAR_OFF) {
                due("formAt(3, " + i + ") in a ring of " + m, x.formAt(3, i), UNKNOWN);
            }
        }
    }

    private static void formAtOutside() {
        says("OUTSIDE (k");
        for (int m = LEAST_M; m <= MOST_M; m++) {
            ToneSets x = shelf(m);
            due("k -1 in a ring of " + m, x.formAt(-1, 0), OUTSIDE);
            due("k 0 in a ring of " + m, x.formAt(0, 0), 0);
            due("k M in a ring of " + m, x.formAt(m, 0), allTones(m));
            due("k M and 1 in a ring of " + m, x.formAt(m + 1, 0), OUTSIDE);
            for (int k : FAR_OFF) {
                due("k " + k + " in a ring of " + m, x.formAt(k, 0), OUTSIDE);
            }
        }
    }

    private static void formAtOutsideAheadOfUnknown() {
        says("OUTSIDE (k; ahead of UNKNOWN).");
        ToneSets x = shelf(7);
        for (int k : new int[] {-1, 8, MIN, MAX}) {
            for (int i : new int[] {-1, 1, 4, MIN, MAX}) {
                due("formAt(" + k + ", " + i + ")", x.formAt(k, i), OUTSIDE);
            }
        }
    }

    // ---- promise 7

    private static void insidePlaces() {
        says("INSIDE, of the SET at PLACE p, by the FORM of that at q. UNKNOWN.");
        ToneSets x = shelf(12, set(0, 1, 2), set(4, 5));
        due("of the last in the first", x.inside(0, 1), 2);
        due("of the first in the last", x.inside(1, 0), 0);
        due("of itself", x.inside(1, 1), 1);
        for (int p : new int[] {-1, 2, 8, MIN, MAX}) {
            due("inside(" + p + ", 0)", x.inside(p, 0), UNKNOWN);
            due("inside(0, " + p + ")", x.inside(0, p), UNKNOWN);
            due("inside(" + p + ", " + p + ")", x.inside(p, p), UNKNOWN);
        }
    }

    // ---- promise 8

    private static void wayPlaces() {
        says("WAY. UNKNOWN");
        ToneSets x = shelf(12, 1, 2);
        due("from the first to the last", x.way(0, 1), 1);
        due("from the last to the first", x.way(1, 0), 1);
        due("from a place to itself", x.way(1, 1), 0);
        for (int p : new int[] {-1, 2, 8, MIN, MAX}) {
            due("way(" + p + ", 0)", x.way(p, 0), UNKNOWN);
            due("way(0, " + p + ")", x.way(0, p), UNKNOWN);
            due("way(" + p + ", " + p + ")", x.way(p, p), UNKNOWN);
        }
    }

    private static void wayOfNought() {
        says("NOT: a SET is 0.");
        ToneSets x = shelf(12, 0, 1, 0);
        due("from it", x.way(0, 1), NOT);
        due("to it", x.way(1, 0), NOT);
        due("from one to another", x.way(0, 2), NOT);
        due("from it to itself", x.way(0, 0), NOT);
    }

    // ---- promise 9

    private static void nearestPlaces() {
        says("NEAREST, from PLACE p, of the IMAGES OF that at q .. UNKNOWN");
        ToneSets x = shelf(12, set(3), set(0));
        due("from the first, of the last", x.nearest(0, 1, 0), 3);
        due("from the last, of the first", x.nearest(1, 0, 0), 9);
        due("from a place, of itself", x.nearest(0, 0, 0), 0);
        for (int p : new int[] {-1, 2, 8, MIN, MAX}) {
            due("nearest(" + p + ", 0, 0)", x.nearest(p, 0, 0), UNKNOWN);
            due("nearest(0, " + p + ", 1)", x.nearest(0, p, 1), UNKNOWN);
            due("nearest(" + p + ", " + p + ", 0)", x.nearest(p, p, 0), UNKNOWN);
        }
    }

    private static void nearestBounds() {
        says("what = 0 the number, 1 the WAY. .. OUTSIDE");
        ToneSets x = shelf(12, set(3, 5), set(0));
        due("what 0", x.nearest(0, 1, 0), 3);
        due("what 1", x.nearest(0, 1, 1), 2);
        due("what -1", x.nearest(0, 1, -1), OUTSIDE);
        due("what 2", x.nearest(0, 1, 2), OUTSIDE);
        for (int what : FAR_OFF) {
            due("what " + what, x.nearest(0, 1, what), OUTSIDE);
        }
    }

    private static void nearestOfNought() {
        says("NOT: a SET is 0.");
        ToneSets x = shelf(12, 0, 1, 0);
        for (int what = 0; what < 2; what++) {
            due("from it, " + what, x.nearest(0, 1, what), NOT);
            due("to it, " + what, x.nearest(1, 0, what), NOT);
            due("from one to another, " + what, x.nearest(0, 2, what), NOT);
            due("from it to itself, " + what, x.nearest(0, 0, what), NOT);
        }
    }

    // ---- promise 10

    private static void easyPlaces() {
        says("EASY from PLACE p to q .. UNKNOWN");
        ToneSets x = shelf(12, set(0, 1), set(0, 2));
        due("from the first to the last", x.easy(0, 1, 0), 1);
        due("from the last to the first", x.easy(1, 0, 0), 2);
        for (int p : new int[] {-1, 2, 8, MIN, MAX}) {
            due("easy(" + p + ", 0, 0)", x.easy(p, 0, 0), UNKNOWN);
            due("easy(0, " + p + ", 1)", x.easy(0, p, 1), UNKNOWN);
            due("easy(" + p + ", " + p + ", 0)", x.easy(p, p, 0), UNKNOWN);
        }
    }

    private static void easyBounds() {
        says("what = 0 what it costs, 1 the least SET .. OUTSIDE");
        ToneSets x = shelf(12, set(0), set(2));
        due("what 0", x.easy(0, 1, 0), 2);
        due("what 1", x.easy(0, 1, 1), set(1));
        due("what -1", x.easy(0, 1, -1), OUTSIDE);
        due("what 2", x.easy(0, 1, 2), OUTSIDE);
        due("what 2 of like sets", x.easy(0, 0, 2), OUTSIDE);
        for (int what : FAR_OFF) {
            due("what " + what, x.easy(0, 1, what), OUTSIDE);
        }
    }

    private static void easyNextOfAlike() {
        says("(NONE: they are alike)");
        for (int m = LEAST_M; m <= MOST_M; m++) {
            ToneSets x = shelf(m, 0, 0, allTones(m), allTones(m), set(0, 1, 2), set(0, 1, 2));
            for (int p = 0; p < 6; p += 2) {
                due("next in a ring of " + m, x.easy(p, p + 1, 1), NONE);
                due("next of a place to itself", x.easy(p, p, 1), NONE);
            }
            ToneSets y = shelf(m, set(0), set(1));
            due("next door in a ring of " + m, y.easy(0, 1, 1), set(1));
            due("behind that a like one in a ring of " + m, y.easy(1, 1, 1), NONE);
            due("what it costs in a ring of " + m, y.easy(1, 1, 0), 0);
        }
    }

    private static void easyLeastNext() {
        says("1 the least SET that can come next on one that costs so little");
        for (int m = 6; m <= MOST_M; m += 2) {
            ToneSets x = shelf(m, set(0), set(m / 2), set(2), set(m / 2 + 2));
            due("up or down from 0 in a ring of " + m, x.easy(0, 1, 1), set(1));
            due("up or down from 2 in a ring of " + m, x.easy(2, 3, 1), set(1));
            due("back from the middle in a ring of " + m, x.easy(1, 0, 1), set(m / 2 - 1));
        }
        ToneSets x = shelf(12, set(0, 1), set(1, 2), set(0, 6), set(1, 7));
        due("no next set that costs more", x.easy(0, 1, 1), set(0, 2));
        due("either tone may go first", x.easy(2, 3, 1), set(1, 6));
    }

    private static void easyOfUnlikeMany() {
        says("NOT: they have unlike many TONES.");
        ToneSets x = shelf(12, 0, set(0), set(0, 1), 4095, 4094);
        for (int p = 0; p < 5; p++) {
            for (int q = 0; q < 5; q++) {
                for (int what = 0; what < 2; what++) {
                    due("easy(" + p + ", " + q + ", " + what + ")", x.easy(p, q, what), p != q ? NOT : what == 0 ? 0 : NONE);
                }
            }
        }
    }
}

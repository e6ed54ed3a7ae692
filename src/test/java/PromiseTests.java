/** For each promise of the document: ordinary calls, the edges that it names, and wrong inputs. */
public final class PromiseTests extends Checks {
    public static void main(String[] args) {
        newObject();
        toldOfForms();
        toldRound();
        toldUnlikeForms();
        toldOutside();
        at();
        atTwins();
        interval();
        forms();
        formAt();
        inside();
        way();
        nearest();
        easy();
        ring();
        put();
        change();
        join();
        swap();
        take();
        drift();
        undo();
        undoEachKindOfDeed();
        undoKeepsSixteen();
        write();
        wrongEntries();
        tear();
        seed();
        keep();
        goBack();
        refusedChangesNothing();
        firstRefusalCounts();
        end("promises");
    }

    // ---- promise 1

    private static void newObject() {
        ToneSets x = new ToneSets();
        due("1: M", x.told(0), 12);
        due("1: places", x.told(1), 0);
        due("1: round", x.told(4), 0);
        due("1: unlike forms", x.told(5), 0);
        due("1: book", x.told(6), 0);
        due("1: wrong", x.told(7), NONE);
        due("1: to be undone", x.told(8), 0);
        due("1: seed", x.told(9), 0);
        due("1: image 0", x.goBack(0), NOT);
        due("1: image 1", x.goBack(1), NOT);
        ToneSets y = new ToneSets();
        x.put(3);
        due("1: objects are apart", y.told(1), 0);
    }

    // ---- promise 2

    private static void toldOfForms() {
        int[] all = {8, 13, 18, 30, 46, 78, 126, 224};
        int[] twins = {0, 0, 0, 1, 0, 3, 0, 23};
        for (int m = 5; m <= 12; m++) {
            ToneSets x = shelf(m);
            due("2: M", x.told(0), m);
            due("2: all forms in a ring of " + m, x.told(2), all[m - 5]);
            due("2: twins in a ring of " + m, x.told(3), twins[m - 5]);
        }
        ToneSets x = shelf(12);
        due("2: forms ahead of a smaller ring", x.told(2), 224);
        x.ring(8);
        due("2: forms of the smaller ring", x.told(2), 30);
        due("2: twins of the smaller ring", x.told(3), 1);
        x.undo(1);
        due("2: forms of the ring that is back", x.told(2), 224);
        due("2: twins of the ring that is back", x.told(3), 23);
    }

    private static void toldRound() {
        due("2: round of none", shelf(12).told(4), 0);
        due("2: round of one", shelf(12, 5).told(4), 0);
        due("2: round of one beside the set 0", shelf(12, 0, 5, 0).told(4), 0);
        due("2: round begins at place 0", shelf(12, set(3), set(0), set(5)).told(4), 2 + 5);
        due("2: round does not go back", shelf(12, set(0), set(5), set(3)).told(4), 5);
        due("2: round leaves the set 0 out", shelf(12, 0, set(3), 0, set(0), set(5)).told(4), 7);
        due("2: round of eight", shelf(12, set(0), set(9), set(1), set(6), set(3), set(2), set(4), set(11)).told(4), 11);
        due("2: round of like ones", shelf(7, 9, 9, 9).told(4), 0);
    }

    private static void toldUnlikeForms() {
        due("2: unlike forms", shelf(12, set(0, 4, 7), set(0, 3, 7), set(2, 6, 9), 0, 0, set(0, 1)).told(5), 3);
        due("2: unlike forms of as many tones", shelf(12, set(0, 1), set(0, 2), set(5, 4)).told(5), 2);
    }

    private static void toldOutside() {
        ToneSets x = new ToneSets();
        for (int what : new int[] {-1, 10, MIN, MAX}) {
            due("2: told(" + what + ")", x.told(what), OUTSIDE);
        }
    }

    // ---- promise 3

    private static void at() {
        int major = set(0, 4, 7);
        ToneSets x = shelf(12, major, 0, 4095, set(0, 3, 6, 9), set(11));
        int[][] want = {
            {major, 3, set(0, 3, 7), 1, 19, 0, 10},
            {0, 0, 0, 24, 0, 0, 0},
            {4095, 12, 4095, 24, 0, 0, 0},
            {585, 4, 585, 8, 0, 0, 28},
            {2048, 1, 1, 2, 1, 0, 0},
        };
        for (int p = 0; p < want.length; p++) {
            for (int what = 0; what < 7; what++) {
                due("3: at(" + p + ", " + what + ")", x.at(p, what), want[p][what]);
            }
        }
        due("3: what below", x.at(0, -1), OUTSIDE);
        due("3: what above", x.at(0, 7), OUTSIDE);
        due("3: what far above", x.at(0, MAX), OUTSIDE);
        due("3: place below", x.at(-1, 0), UNKNOWN);
        due("3: place above", x.at(5, 0), UNKNOWN);
        due("3: place far off", x.at(MIN, 0), UNKNOWN);
        due("3: unknown ahead of outside", x.at(5, 7), UNKNOWN);
    }

    private static void atTwins() {
        ToneSets x = shelf(12, set(0, 1, 4, 6), set(2, 3, 5, 9), set(0, 1, 2, 3));
        due("3: twins of 0146", x.at(0, 5), 1);
        due("3: twins of a turned 0137", x.at(1, 5), 1);
        due("3: twins of 0123", x.at(2, 5), 0);
        due("3: number of 0146", x.at(0, 6), 10);
        ToneSets y = shelf(5, 0, 1);
        due("3: the set 0 and one tone are no twins", y.at(0, 5) + y.at(1, 5), 0);
    }

    // ---- promise 4

    private static void interval() {
        ToneSets x = shelf(12, set(0, 2, 4, 5, 7, 9, 11), 4095, 0);
        int[] want = {2, 5, 4, 3, 6, 1};
        for (int d = 1; d <= 6; d++) {
            due("4: interval(0, " + d + ")", x.interval(0, d), want[d - 1]);
            due("4: interval of all tones", x.interval(1, d), d == 6 ? 6 : 12);
            due("4: interval of none", x.interval(2, d), 0);
        }
        due("4: d 0", x.interval(0, 0), OUTSIDE);
        due("4: d 7", x.interval(0, 7), OUTSIDE);
        due("4: d far off", x.interval(0, MIN), OUTSIDE);
        due("4: place", x.interval(3, 1), UNKNOWN);
        due("4: unknown ahead of outside", x.interval(-1, 0), UNKNOWN);
        ToneSets y = shelf(5, set(0, 2, 4));
        due("4: ring of 5, 1 apart", y.interval(0, 1), 1);
        due("4: ring of 5, 2 apart", y.interval(0, 2), 2);
        due("4: ring of 5, 3 apart", y.interval(0, 3), OUTSIDE);
    }

    // ---- promise 5

    private static void forms() {
        int[] twelve = {1, 1, 6, 12, 29, 38, 50, 38, 29, 12, 6, 1, 1};
        ToneSets x = shelf(12);
        for (int k = 0; k <= 12; k++) {
            due("5: forms(" + k + ")", x.forms(k), twelve[k]);
        }
        due("5: forms(-1)", x.forms(-1), OUTSIDE);
        due("5: forms(13)", x.forms(13), OUTSIDE);
        due("5: forms far off", x.forms(MAX), OUTSIDE);
        x.ring(5);
        int[] five = {1, 1, 2, 2, 1, 1};
        for (int k = 0; k <= 5; k++) {
            due("5: forms(" + k + ") in a ring of 5", x.forms(k), five[k]);
        }
        due("5: forms(6) in a ring of 5", x.forms(6), OUTSIDE);
    }

    // ---- promise 6

    private static void formAt() {
        ToneSets x = shelf(12);
        int[] three = {7, 11, 19, 21, 35, 37, 67, 69, 73, 133, 137, 273};
        for (int i = 0; i < three.length; i++) {
            due("6: formAt(3, " + i + ")", x.formAt(3, i), three[i]);
        }
        due("6: first of none", x.formAt(0, 0), 0);
        due("6: second of none", x.formAt(0, 1), UNKNOWN);
        due("6: of all", x.formAt(12, 0), 4095);
        due("6: last of 6", x.formAt(6, 49), 1365);
        due("6: behind the last of 6", x.formAt(6, 50), UNKNOWN);
        due("6: below the first", x.formAt(6, -1), UNKNOWN);
        due("6: i far off", x.formAt(6, MAX), UNKNOWN);
        due("6: k below", x.formAt(-1, 0), OUTSIDE);
        due("6: k above", x.formAt(13, 0), OUTSIDE);
        due("6: outside ahead of unknown", x.formAt(13, -1), OUTSIDE);
        x.ring(6);
        due("6: in a ring of 6", x.formAt(3, 2), set(0, 2, 4));
        due("6: behind the last in a ring of 6", x.formAt(3, 3), UNKNOWN);
        due("6: k above in a ring of 6", x.formAt(7, 0), OUTSIDE);
    }

    // ---- promise 7

    private static void inside() {
        int scale = set(0, 2, 4, 5, 7, 9, 11);
        ToneSets x = shelf(12, scale, set(0, 4, 7), set(0, 3, 6), set(0, 6), 0, 4095, set(0, 3, 6, 9));
        due("7: triads in a scale", x.inside(0, 1), 6);
        due("7: diminished triads in a scale", x.inside(0, 2), 1);
        due("7: tritones in a scale", x.inside(0, 3), 1);
        due("7: the set 0 in a scale", x.inside(0, 4), 1);
        due("7: all tones in a scale", x.inside(0, 5), 0);
        due("7: a set in itself", x.inside(0, 0), 1);
        due("7: the larger in the smaller", x.inside(1, 0), 0);
        due("7: tritones in all tones", x.inside(5, 3), 6);
        due("7: rings of thirds in all tones", x.inside(5, 6), 3);
        due("7: p unknown", x.inside(7, 0), UNKNOWN);
        due("7: q unknown", x.inside(0, -1), UNKNOWN);
    }

    // ---- promise 8

    private static void way() {
        ToneSets x = shelf(12, set(0), set(6), set(0, 4, 7), set(0, 3, 7), 0, set(11), set(2, 3, 4, 5), set(0, 1));
        due("8: half round", x.way(0, 1), 6);
        due("8: the shorter way round", x.way(0, 5), 1);
        due("8: triads", x.way(2, 3), 1);
        due("8: like sets", x.way(2, 2), 0);
        due("8: all go to one", x.way(2, 0), 4 + 5);
        due("8: one goes to all", x.way(0, 2), 4 + 5);
        due("8: each is gone to", x.way(6, 7), 2 + 2 + 3 + 4);
        due("8: the other way round", x.way(7, 6), 2 + 2 + 3 + 4);
        due("8: from the set 0", x.way(4, 0), NOT);
        due("8: to the set 0", x.way(0, 4), NOT);
        due("8: p unknown", x.way(8, 0), UNKNOWN);
        due("8: q unknown", x.way(0, 8), UNKNOWN);
        due("8: unknown ahead of not", x.way(4, MIN), UNKNOWN);
    }

    // ---- promise 9

    private static void nearest() {
        ToneSets x = shelf(12, set(0, 4, 7), set(2, 5, 9), set(3), 0, set(0, 4, 8), set(0, 1, 2));
        due("9: the mirror that is it", x.nearest(0, 1, 0), 12 + 9);
        due("9: its way", x.nearest(0, 1, 1), 0);
        due("9: the first of several", x.nearest(0, 4, 0), 0);
        due("9: the way to it", x.nearest(0, 4, 1), 1);
        due("9: from one tone", x.nearest(2, 5, 1), 2);
        due("9: its number", x.nearest(2, 5, 0), 2);
        due("9: what below", x.nearest(0, 1, -1), OUTSIDE);
        due("9: what above", x.nearest(0, 1, 2), OUTSIDE);
        due("9: from the set 0", x.nearest(3, 0, 0), NOT);
        due("9: to the set 0", x.nearest(0, 3, 1), NOT);
        due("9: outside ahead of not", x.nearest(0, 3, 2), OUTSIDE);
        due("9: unknown ahead of outside", x.nearest(6, 3, 2), UNKNOWN);
        due("9: q unknown", x.nearest(0, 6, 0), UNKNOWN);
    }

    // ---- promise 10

    private static void easy() {
        ToneSets x = shelf(12, set(0), set(3), set(6), 0, 4095, set(0, 1), set(1, 2), set(11));
        due("10: three steps", x.easy(0, 1, 0), 3);
        due("10: the next", x.easy(0, 1, 1), set(1));
        due("10: half round", x.easy(0, 2, 0), 6);
        due("10: the lesser next", x.easy(0, 2, 1), set(1));
        due("10: over the last tone", x.easy(0, 7, 0), 1);
        due("10: over the last tone, next", x.easy(0, 7, 1), set(11));
        due("10: neighbours cost more", x.easy(5, 6, 0), 1 + 2);
        due("10: between neighbours", x.easy(5, 6, 1), set(0, 2));
        due("10: alike", x.easy(1, 1, 0), 0);
        due("10: next of alike", x.easy(1, 1, 1), NONE);
        due("10: none to none", x.easy(3, 3, 0), 0);
        due("10: all to all", x.easy(4, 4, 1), NONE);
        due("10: unlike many", x.easy(0, 3, 0), NOT);
        due("10: what below", x.easy(0, 1, -1), OUTSIDE);
        due("10: what above", x.easy(0, 1, 2), OUTSIDE);
        due("10: outside ahead of not", x.easy(0, 3, 2), OUTSIDE);
        due("10: unknown ahead of outside", x.easy(0, 8, 2), UNKNOWN);
        due("10: p unknown", x.easy(-1, 0, 0), UNKNOWN);
    }

    // ---- promise 11

    private static void ring() {
        ToneSets x = new ToneSets();
        x.put(7);
        due("11: to 5", x.ring(5), 12);
        due("11: M", x.told(0), 5);
        due("11: the shelf is empty", x.told(1), 0);
        x.put(31);
        due("11: as it was", x.ring(5), 5);
        due("11: the shelf is empty again", x.told(1), 0);
        due("11: can be undone", x.told(8), 4);
        due("11: 4", x.ring(4), OUTSIDE);
        due("11: 13", x.ring(13), OUTSIDE);
        due("11: far off", x.ring(MIN), OUTSIDE);
        due("11: to 12", x.ring(12), 5);
    }

    // ---- promise 12

    private static void put() {
        ToneSets x = new ToneSets();
        due("12: below", x.put(-1), OUTSIDE);
        due("12: above", x.put(4096), OUTSIDE);
        for (int p = 0; p < 8; p++) {
            due("12: put", x.put(p == 7 ? 4095 : p), p);
        }
        due("12: full", x.put(0), FULL);
        due("12: outside ahead of full", x.put(4096), OUTSIDE);
        due("12: first", x.at(0, 0), 0);
        due("12: last", x.at(7, 0), 4095);
        due("12: places", x.told(1), 8);
        x.ring(5);
        due("12: above in a ring of 5", x.put(32), OUTSIDE);
        due("12: most in a ring of 5", x.put(31), 0);
    }

    // ---- promise 13

    private static void change() {
        ToneSets x = shelf(12, set(0, 4, 7));
        due("13: turned by 0", x.change(0, 0, 0), set(0, 4, 7));
        due("13: turned by 11", x.change(0, 0, 11), set(11, 3, 6));
        due("13: mirrored", x.change(0, 1, MIN), set(1, 9, 6));
        due("13: times 1", x.change(0, 2, 1), set(1, 9, 6));
        due("13: times 7", x.change(0, 2, 7), set(7, 3, 6));
        due("13: times 11", x.change(0, 2, 11), set(5, 9, 6));
        due("13: the others", x.change(0, 3, MAX), 4095 - set(5, 6, 9));
        due("13: tone 5 comes", x.change(0, 4, 5), 4095 - set(6, 9));
        due("13: tone 11 goes", x.change(0, 4, 11), 4095 - set(6, 9, 11));
        due("13: turned by 5", x.change(0, 0, 5), 4095 - set(11, 2, 4));
        due("13: form", x.change(0, 5, -5), 4095 - set(6, 9, 11));
        due("13: at", x.at(0, 0), 4095 - set(6, 9, 11));
        for (int v : new int[] {2, 3, 4, 6, 8, 9, 10}) {
            due("13: times " + v, x.change(0, 2, v), NOT);
        }
        for (int v : new int[] {-1, 12, MIN, MAX}) {
            due("13: turned by " + v, x.change(0, 0, v), OUTSIDE);
            due("13: times " + v, x.change(0, 2, v), OUTSIDE);
            due("13: tone " + v, x.change(0, 4, v), OUTSIDE);
        }
        due("13: times 0", x.change(0, 2, 0), OUTSIDE);
        due("13: kind -1", x.change(0, -1, 0), OUTSIDE);
        due("13: kind 6", x.change(0, 6, 0), OUTSIDE);
        due("13: unknown", x.change(1, 0, 0), UNKNOWN);
        due("13: unknown ahead of outside", x.change(-1, 6, 99), UNKNOWN);
        due("13: unknown ahead of not", x.change(1, 2, 2), UNKNOWN);
        ToneSets y = shelf(9, set(1, 8));
        due("13: times 6 in a ring of 9", y.change(0, 2, 6), NOT);
        due("13: times 4 in a ring of 9", y.change(0, 2, 4), set(4, 5));
    }

    // ---- promise 14

    private static void join() {
        int[] want = {set(1), set(0, 1, 2), set(0, 2), set(0)};
        for (int kind = 0; kind < 4; kind++) {
            ToneSets x = shelf(12, set(0, 1), set(1, 2));
            due("14: kind " + kind, x.join(0, 1, kind), want[kind]);
            due("14: at p", x.at(0, 0), want[kind]);
            due("14: at q", x.at(1, 0), set(1, 2));
        }
        ToneSets x = shelf(12, set(0, 1), set(1, 2));
        due("14: with itself, both", x.join(0, 0, 0), set(0, 1));
        due("14: with itself, just one", x.join(0, 0, 2), 0);
        due("14: kind below", x.join(0, 1, -1), OUTSIDE);
        due("14: kind above", x.join(0, 1, 4), OUTSIDE);
        due("14: p unknown", x.join(2, 0, 0), UNKNOWN);
        due("14: q unknown ahead of outside", x.join(0, 2, 4), UNKNOWN);
    }

    // ---- promise 15

    private static void swap() {
        ToneSets x = shelf(12, set(0, 4, 7), set(0, 3, 7), set(0, 1));
        due("15: like forms", x.swap(0, 1), 0);
        due("15: first", x.at(0, 0), set(0, 3, 7));
        due("15: second", x.at(1, 0), set(0, 4, 7));
        due("15: unlike forms", x.swap(2, 0), 1);
        due("15: third", x.at(2, 0), set(0, 3, 7));
        due("15: first again", x.at(0, 0), set(0, 1));
        due("15: with itself", x.swap(1, 1), 0);
        due("15: with itself it stays", x.at(1, 0), set(0, 4, 7));
        due("15: p unknown", x.swap(3, 0), UNKNOWN);
        due("15: q unknown", x.swap(0, -1), UNKNOWN);
    }

    // ---- promise 16

    private static void take() {
        ToneSets x = shelf(12, 1, 2, 3);
        due("16: take(3)", x.take(3), UNKNOWN);
        due("16: take(-1)", x.take(-1), UNKNOWN);
        due("16: the first goes", x.take(0), 2);
        due("16: later ones have one less", x.at(0, 0), 2);
        due("16: all of them", x.at(1, 0), 3);
        due("16: the last is gone", x.at(2, 0), UNKNOWN);
        due("16: the last goes", x.take(1), 1);
        due("16: the only one goes", x.take(0), 0);
        due("16: none is left", x.take(0), UNKNOWN);
    }

    // ---- promise 17

    private static void drift() {
        ToneSets x = new ToneSets();
        due("17: one", x.drift(1), 1);
        due("17: the seed", x.told(9), 12345);
        due("17: the first set", x.at(0, 0), 0);
        due("17: one more", x.drift(1), 2);
        int seed = (int) ((12345L * 1103515245L + 12345L) % 2147483648L);
        due("17: the seed then", x.told(9), seed);
        due("17: the second set", x.at(1, 0), seed / 65536 % 4096);
        due("17: while there is room", x.drift(8), 8);
        int then = x.told(9);
        due("17: no room", x.drift(8), 8);
        due("17: then there is no draw", x.told(9), then);
        due("17: each can be undone", x.told(8), 8);
        due("17: 0", x.drift(0), OUTSIDE);
        due("17: 9", x.drift(9), OUTSIDE);
        due("17: far off", x.drift(MIN), OUTSIDE);
        ToneSets y = shelf(5);
        y.seed(MAX);
        y.drift(1);
        int last = (int) ((2147483647L * 1103515245L + 12345L) % 2147483648L);
        due("17: from the greatest seed", y.told(9), last);
        due("17: left over by 32", y.at(0, 0), last / 65536 % 32);
    }

    // ---- promise 18

    private static void undo() {
        ToneSets x = new ToneSets();
        due("18: nothing yet", x.undo(1), NOT);
        due("18: 0", x.undo(0), OUTSIDE);
        due("18: 17", x.undo(17), OUTSIDE);
        due("18: far off", x.undo(MAX), OUTSIDE);
        x.put(1);
        x.put(2);
        due("18: not so many", x.undo(3), NOT);
        due("18: still two", x.told(8), 2);
        due("18: both", x.undo(2), 0);
        due("18: none is left", x.told(8), 0);
        x.drift(3);
        x.write(0, 4);
        int seed = x.told(9);
        due("18: one by draws", x.undo(1), 2);
        due("18: the seed stays", x.told(9), seed);
        due("18: the book stays", x.told(6), 1);
        due("18: two more can be undone", x.told(8), 2);
        x.put(77);
        due("18: a new deed", x.told(8), 3);
        due("18: it is undone", x.undo(1), 2);
        x.seed(5);
        due("18: a seed is no deed", x.told(8), 2);
    }

    private static void undoEachKindOfDeed() {
        ToneSets x = shelf(7, 11, 19);
        int deeds = x.told(8);
        x.ring(7);
        due("18: ring", x.undo(1), 2);
        x.change(0, 0, 0);
        due("18: change without effect counts", x.told(8), deeds + 1);
        x.change(0, 3, 0);
        due("18: change", x.undo(2), 2);
        due("18: change is undone", x.at(0, 0), 11);
        x.join(1, 0, 1);
        due("18: join", x.undo(1), 2);
        due("18: join is undone", x.at(1, 0), 19);
        x.swap(0, 1);
        due("18: swap", x.undo(1), 2);
        due("18: swap is undone", x.at(0, 0), 11);
        x.swap(1, 1);
        due("18: swap with itself counts", x.told(8), deeds + 1);
        x.take(0);
        due("18: take", x.undo(2), 2);
        due("18: take is undone", x.at(0, 0), 11);
        due("18: and the later one is back", x.at(1, 0), 19);
        x.ring(12);
        due("18: ring to another size", x.undo(1), 2);
        due("18: M is back", x.told(0), 7);
        due("18: the shelf is back", x.at(1, 0), 19);
    }

    private static void undoKeepsSixteen() {
        ToneSets x = new ToneSets();
        x.put(0);
        for (int tone = 0; tone < 12; tone++) {
            x.change(0, 4, tone);
        }
        due("18: thirteen", x.told(8), 13);
        for (int tone = 0; tone < 12; tone++) {
            x.change(0, 4, tone);
        }
        due("18: at most 16", x.told(8), 16);
        due("18: the oldest that is kept", x.undo(16), 1);
        due("18: as it was ahead of it", x.at(0, 0), 255);
        due("18: no more", x.undo(1), NOT);
    }

    // ---- promise 19

    private static void write() {
        ToneSets x = new ToneSets();
        due("19: no place", x.write(0, 0), UNKNOWN);
        x.put(1);
        due("19: place 1", x.write(1, 0), UNKNOWN);
        due("19: place -1", x.write(-1, 0), UNKNOWN);
        int[] any = {0, -1, MIN, MAX, NOT};
        for (int i = 1; i <= 20; i++) {
            due("19: entry", x.write(0, any[i % any.length]), i);
        }
        due("19: full", x.write(0, 0), FULL);
        due("19: unknown ahead of full", x.write(1, 0), UNKNOWN);
        due("19: entries", x.told(6), 20);
        due("19: no deed", x.told(8), 1);
    }

    private static void wrongEntries() {
        ToneSets x = shelf(12, set(0), set(2), set(5));
        x.write(0, 0);
        x.write(1, 2);
        x.write(2, 5);
        due("2: nothing wrong", x.told(7), NONE);
        x.change(2, 0, 1);
        due("2: the last is wrong", x.told(7), 2);
        x.take(2);
        due("2: a place that is no more", x.told(7), 2);
        x.change(1, 4, 2);
        due("2: the set 0", x.told(7), 1);
        x.undo(3);
        due("2: right again", x.told(7), NONE);
        x.change(0, 4, 0);
        due("2: from the set 0", x.told(7), 0);
        x.undo(1);
        x.write(2, NOT);
        x.change(2, 2, 5);
        due("2: the first of several", x.told(7), 2);
        x.ring(12);
        due("2: nothing on the shelf", x.told(7), 0);
        ToneSets y = shelf(12, 0);
        y.write(0, NOT);
        due("2: of the set 0 no entry is right", y.told(7), 0);
        y.tear();
        due("2: no book, nothing wrong", y.told(7), NONE);
    }

    // ---- promise 20

    private static void tear() {
        ToneSets x = shelf(12, 5);
        due("20: nothing in it", x.tear(), 0);
        x.write(0, 3);
        x.write(0, 0);
        due("20: two", x.tear(), 2);
        due("20: no book", x.told(6), 0);
        due("20: from the front again", x.write(0, 0), 1);
        due("20: the new entry counts", x.told(7), NONE);
    }

    // ---- promise 21

    private static void seed() {
        ToneSets x = new ToneSets();
        due("21: first", x.seed(MAX), 0);
        due("21: the greatest", x.told(9), MAX);
        due("21: back to 0", x.seed(0), MAX);
        due("21: -1", x.seed(-1), OUTSIDE);
        due("21: far off", x.seed(MIN), OUTSIDE);
        due("21: still 0", x.told(9), 0);
    }

    // ---- promise 22

    private static void keep() {
        ToneSets x = shelf(12, 5);
        due("22: 0", x.keep(0), 1);
        due("22: nothing can be undone", x.told(8), 0);
        due("22: not undone", x.undo(1), NOT);
        due("22: the shelf stays", x.at(0, 0), 5);
        due("22: 2", x.keep(2), UNKNOWN);
        due("22: -1", x.keep(-1), UNKNOWN);
        x.put(6);
        due("22: a deed since", x.told(8), 1);
        due("22: 1", x.keep(1), 1);
        x.put(7);
        due("22: once more", x.keep(0), 1);
        x.ring(6);
        x.goBack(0);
        due("22: the later one counts", x.told(1), 3);
        x.goBack(1);
        due("22: the other image is its own", x.told(1), 2);
    }

    // ---- promise 23

    private static void goBack() {
        ToneSets x = shelf(9, 5, 300);
        due("23: not kept", x.goBack(0), NOT);
        due("23: unknown", x.goBack(2), UNKNOWN);
        due("23: below", x.goBack(-1), UNKNOWN);
        x.seed(99);
        x.keep(1);
        due("23: the other was not kept", x.goBack(0), NOT);
        x.write(1, 1000);
        x.ring(5);
        x.drift(2);
        due("23: back", x.goBack(1), 1);
        due("23: M", x.told(0), 9);
        due("23: places", x.told(1), 2);
        due("23: the first", x.at(0, 0), 5);
        due("23: the second", x.at(1, 0), 300);
        due("23: the seed", x.told(9), 99);
        due("23: the book stays", x.told(6), 1);
        due("23: nothing can be undone", x.told(8), 0);
        x.take(0);
        due("23: again", x.goBack(1), 1);
        due("23: the image was not changed", x.at(0, 0), 5);
    }

    // ---- terms

    private static void refusedChangesNothing() {
        ToneSets x = shelf(12, 5, 6);
        int deeds = x.told(8);
        x.ring(13);
        x.put(4096);
        x.change(0, 2, 2);
        x.change(0, 9, 2);
        x.change(5, 0, 2);
        x.join(0, 1, 4);
        x.join(0, 2, 1);
        x.swap(0, 2);
        x.take(2);
        x.drift(9);
        x.undo(17);
        x.write(2, 0);
        x.seed(-1);
        x.keep(2);
        x.goBack(0);
        due("terms: deeds", x.told(8), deeds);
        due("terms: M", x.told(0), 12);
        due("terms: places", x.told(1), 2);
        due("terms: first", x.at(0, 0), 5);
        due("terms: second", x.at(1, 0), 6);
        due("terms: book", x.told(6), 0);
        due("terms: seed", x.told(9), 0);
    }

    private static void firstRefusalCounts() {
        ToneSets x = shelf(12, 5, 6, 7, 8, 9, 10, 11, 12);
        due("terms: outside ahead of full", x.put(-1), OUTSIDE);
        due("terms: outside ahead of not", x.change(0, 2, 14), OUTSIDE);
        x.keep(0);
        due("terms: outside ahead of not, undone", x.undo(17), OUTSIDE);
        due("terms: unknown ahead of not", x.goBack(9), UNKNOWN);
    }
}

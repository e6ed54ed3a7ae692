/** The edges of promises 11 to 18, the deeds, with what "Terms" says of them: one test for each sentence. */
public final class DeedEdges extends Checks {
    public static void main(String[] args) {
        ringBounds();
        ringAsItWas();
        ringEmptiesTheShelf();
        putBounds();
        putFull();
        putAgainWhenOneIsGone();
        changePlaces();
        changeKinds();
        turnBounds();
        timesBounds();
        timesOfCommonDivisor();
        othersOfNoneAndAll();
        toneBounds();
        toneComesOrGoes();
        formOfAny();
        vHasNoSay();
        changeStaysAtItsPlace();
        joinPlaces();
        joinKinds();
        joinBounds();
        joinWithItself();
        joinOfNoneAndAll();
        joinToNone();
        swapPlaces();
        swapAnswers();
        swapWithItself();
        takePlaces();
        takeTheLast();
        driftBounds();
        driftWhileThereIsRoom();
        driftWithoutRoom();
        driftOfTheFirstSeed();
        driftLeftOver();
        undoBounds();
        undoNotSoMany();
        undoAsMany();
        undoKeepsSixteen();
        undoSinceTheImage();
        undoEachDeed();
        undoWhatChangedNothing();
        undoEachDrawnPlace();
        undoOfWhatIsNoDeed();
        undoLeavesSeedAndBook();
        undoBringsTheRingBack();
        deedBehindUndo();
        end("deed edges");
    }

    private static String places(ToneSets x) {
        StringBuilder row = new StringBuilder();
        for (int p = 0; p < x.told(1); p++) {
            row.append(x.at(p, 0)).append(' ');
        }
        return row.toString();
    }

    // ---- promise 11

    private static void ringBounds() {
        says("M (5 .. 12; also as it was): what it was .. OUTSIDE.");
        ToneSets x = new ToneSets();
        int was = 12;
        for (int m = LEAST_M; m <= MOST_M; m++) {
            due("ring(" + m + ")", x.ring(m), was);
            due("M then", x.told(0), m);
            due("ring(4)", x.ring(4), OUTSIDE);
            due("ring(13)", x.ring(13), OUTSIDE);
            due("M still", x.told(0), m);
            was = m;
        }
        for (int m : new int[] {0, -1, 1, -5, -12, MIN, MAX, UNKNOWN}) {
            due("ring(" + m + ")", x.ring(m), OUTSIDE);
        }
    }

    private static void ringAsItWas() {
        says("also as it was");
        for (int m = LEAST_M; m <= MOST_M; m++) {
            ToneSets x = shelf(m, 1, 2);
            due("ring(" + m + ")", x.ring(m), m);
            due("places", x.told(1), 0);
            due("it can be undone", x.told(8), 4);
        }
    }

    private static void ringEmptiesTheShelf() {
        says("THE SHELF is empty then");
        ToneSets x = shelf(12, 1, 2, 3, 4, 5, 6, 7, 8);
        x.ring(5);
        due("places of a full shelf", x.told(1), 0);
        due("at(0, 0)", x.at(0, 0), UNKNOWN);
        due("put", x.put(31), 0);
        ToneSets y = new ToneSets();
        y.ring(9);
        due("places of an empty shelf", y.told(1), 0);
    }

    // ---- promise 12

    private static void putBounds() {
        says("A SET comes at a new PLACE: its number. OUTSIDE");
        for (int m = LEAST_M; m <= MOST_M; m++) {
            ToneSets x = shelf(m);
            due("put(-1), ring of " + m, x.put(-1), OUTSIDE);
            due("put(2 to the M), ring of " + m, x.put(1 << m), OUTSIDE);
            due("put(0), ring of " + m, x.put(0), 0);
            due("put(2 to the M, less 1), ring of " + m, x.put(allTones(m)), 1);
            due("the least is there", x.at(0, 0), 0);
            due("the largest is there", x.at(1, 0), allTones(m));
            for (int set : FAR_OFF) {
                due("put(" + set + "), ring of " + m, x.put(set), OUTSIDE);
            }
        }
    }

    private static void putFull() {
        says("FULL (8)");
        ToneSets x = new ToneSets();
        for (int p = 0; p < 8; p++) {
            due("put", x.put(p), p);
        }
        due("put(0) on a full shelf", x.put(0), FULL);
        due("put(4095) on a full shelf", x.put(4095), FULL);
        due("the shelf", places(x), "0 1 2 3 4 5 6 7 ");
    }

    private static void putAgainWhenOneIsGone() {
        says("FULL (8)");
        ToneSets x = shelf(12, 1, 2, 3, 4, 5, 6, 7, 8);
        x.take(0);
        due("put when one is gone", x.put(9), 7);
        due("put again", x.put(9), FULL);
        x.undo(1);
        due("put when one is undone", x.put(10), 7);
    }

    // ---- promise 13

    private static void changePlaces() {
        says("CHANGED by a KIND (0 .. 5) and v: the SET then. UNKNOWN");
        for (int kind = 0; kind <= 5; kind++) {
            ToneSets x = shelf(12, 3, 5);
            for (int p : new int[] {-1, 2, 8, MIN, MAX}) {
                due("change(" + p + ", " + kind + ", 1)", x.change(p, kind, 1), UNKNOWN);
            }
        }
    }

    private static void changeKinds() {
        says("a KIND (0 .. 5) .. OUTSIDE");
        ToneSets x = shelf(12, set(0, 1, 4));
        due("kind 0", x.change(0, 0, 1), set(1, 2, 5));
        due("kind 5", x.change(0, 5, 1), set(0, 1, 4));
        due("kind -1", x.change(0, -1, 1), OUTSIDE);
        due("kind 6", x.change(0, 6, 1), OUTSIDE);
        for (int kind : FAR_OFF) {
            due("kind " + kind, x.change(0, kind, 1), OUTSIDE);
        }
    }

    private static void turnBounds() {
        says("0 TURNED by v (0 .. M less 1)");
        for (int m = LEAST_M; m <= MOST_M; m++) {
            ToneSets x = shelf(m, set(0, 1));
            due("by -1, ring of " + m, x.change(0, 0, -1), OUTSIDE);
            due("by 0, ring of " + m, x.change(0, 0, 0), set(0, 1));
            due("by M less 1, ring of " + m, x.change(0, 0, m - 1), set(0, m - 1));
            due("by M, ring of " + m, x.change(0, 0, m), OUTSIDE);
            for (int v : FAR_OFF) {
                due("by " + v + ", ring of " + m, x.change(0, 0, v), OUTSIDE);
            }
        }
    }

    private static void timesBounds() {
        says("2 TIMES v (1 .. M less 1");
        for (int m = LEAST_M; m <= MOST_M; m++) {
            ToneSets x = shelf(m, set(0, 1));
            due("times 0, ring of " + m, x.change(0, 2, 0), OUTSIDE);
            due("times 1, ring of " + m, x.change(0, 2, 1), set(0, 1));
            due("times M less 1, ring of " + m, x.change(0, 2, m - 1), set(0, m - 1));
            due("times M, ring of " + m, x.change(0, 2, m), OUTSIDE);
            due("times M and 1, ring of " + m, x.change(0, 2, m + 1), OUTSIDE);
            due("times -1, ring of " + m, x.change(0, 2, -1), OUTSIDE);
            for (int v : FAR_OFF) {
                due("times " + v + ", ring of " + m, x.change(0, 2, v), OUTSIDE);
            }
        }
    }

    private static void timesOfCommonDivisor() {
        says("NOT: v and M have a divisor above 1 in common");
        for (int m = LEAST_M; m <= MOST_M; m++) {
            for (int v = 1; v < m; v++) {
                ToneSets x = shelf(m, 0);
                due("times " + v + ", ring of " + m, x.change(0, 2, v), haveCommonDivisor(v, m) ? NOT : 0);
            }
        }
    }

    private static void othersOfNoneAndAll() {
        says("3 the TONES that are not in it");
        for (int m = LEAST_M; m <= MOST_M; m++) {
            ToneSets x = shelf(m, 0);
            due("of none, ring of " + m, x.change(0, 3, 0), allTones(m));
            due("of all, ring of " + m, x.change(0, 3, 0), 0);
        }
    }

    private static void toneBounds() {
        says("4 TONE v (0 .. M less 1)");
        for (int m = LEAST_M; m <= MOST_M; m++) {
            ToneSets x = shelf(m, 0);
            due("tone -1, ring of " + m, x.change(0, 4, -1), OUTSIDE);
            due("tone 0, ring of " + m, x.change(0, 4, 0), set(0));
            due("tone M less 1, ring of " + m, x.change(0, 4, m - 1), set(0, m - 1));
            due("tone M, ring of " + m, x.change(0, 4, m), OUTSIDE);
            due("tone 32, ring of " + m, x.change(0, 4, 32), OUTSIDE);
            for (int v : FAR_OFF) {
                due("tone " + v + ", ring of " + m, x.change(0, 4, v), OUTSIDE);
            }
        }
    }

    private static void toneComesOrGoes() {
        says("comes, or goes, if it is there");
        for (int m = LEAST_M; m <= MOST_M; m++) {
            ToneSets x = shelf(m, 0, allTones(m));
            due("comes to none, ring of " + m, x.change(0, 4, m - 1), set(m - 1));
            due("goes from one, ring of " + m, x.change(0, 4, m - 1), 0);
            due("goes from all, ring of " + m, x.change(1, 4, 0), allTones(m) - 1);
            due("comes to all but one, ring of " + m, x.change(1, 4, 0), allTones(m));
        }
    }

    private static void formOfAny() {
        says("5 its FORM");
        for (int m = LEAST_M; m <= MOST_M; m++) {
            ToneSets x = shelf(m, 0, allTones(m), set(m - 1), set(0, m - 1), set(0, 2, 3));
            int[] want = {0, allTones(m), 1, 3, leastImage(set(0, 2, 3), m)};
            for (int p = 0; p < want.length; p++) {
                due("form of place " + p + ", ring of " + m, x.change(p, 5, 0), want[p]);
                due("form of a form, ring of " + m, x.change(p, 5, 0), want[p]);
            }
        }
    }

    private static void vHasNoSay() {
        says("(Of 1, 3, 5 v has no say.)");
        for (int v : new int[] {MIN, UNKNOWN, -1, 0, 1, 11, 12, 13, 4096, MAX}) {
            due("mirrored, v " + v, shelf(12, set(0, 1, 4)).change(0, 1, v), set(0, 11, 8));
            due("the others, v " + v, shelf(12, set(0, 1, 4)).change(0, 3, v), 4095 - set(0, 1, 4));
            due("form, v " + v, shelf(12, set(5, 6, 9)).change(0, 5, v), set(0, 1, 4));
        }
    }

    private static void changeStaysAtItsPlace() {
        says("the SET then");
        for (int kind = 0; kind <= 5; kind++) {
            ToneSets x = shelf(12, 3, 22, 5);
            int then = x.change(1, kind, 5);
            due("the place, kind " + kind, places(x), "3 " + then + " 5 ");
        }
    }

    // ---- promise 14

    private static void joinPlaces() {
        says("The SET at PLACE p becomes it JOINED with that at q .. UNKNOWN");
        ToneSets x = shelf(12, 3, 6);
        for (int kind = 0; kind < 4; kind++) {
            for (int p : new int[] {-1, 2, 8, MIN, MAX}) {
                due("join(" + p + ", 0, " + kind + ")", x.join(p, 0, kind), UNKNOWN);
                due("join(0, " + p + ", " + kind + ")", x.join(0, p, kind), UNKNOWN);
                due("join(" + p + ", " + p + ", " + kind + ")", x.join(p, p, kind), UNKNOWN);
            }
        }
        due("the last with the first", x.join(1, 0, 3), set(2));
        due("the shelf", places(x), "3 4 ");
    }

    private static void joinKinds() {
        says("0 TONES of both, 1 of either, 2 of just one, 3 of the first alone");
        int[] want = {set(1, 11), set(0, 1, 2, 11), set(0, 2), set(0)};
        for (int kind = 0; kind < 4; kind++) {
            ToneSets x = shelf(12, set(0, 1, 11), set(1, 2, 11));
            due("kind " + kind, x.join(0, 1, kind), want[kind]);
            due("the shelf", places(x), want[kind] + " " + set(1, 2, 11) + " ");
        }
    }

    private static void joinBounds() {
        says("by a KIND (0 .. 3) .. OUTSIDE");
        ToneSets x = shelf(12, 3, 6);
        due("kind -1", x.join(0, 1, -1), OUTSIDE);
        due("kind 4", x.join(0, 1, 4), OUTSIDE);
        for (int kind : FAR_OFF) {
            due("kind " + kind, x.join(0, 1, kind), OUTSIDE);
        }
        due("kind 3, the largest", x.join(0, 1, 3), 1);
        due("kind 0, the least", x.join(0, 1, 0), 0);
    }

    private static void joinWithItself() {
        says("The SET at PLACE p becomes it JOINED with that at q");
        int[] want = {37, 37, 0, 0};
        for (int kind = 0; kind < 4; kind++) {
            due("with itself by " + kind, shelf(12, 37).join(0, 0, kind), want[kind]);
        }
    }

    private static void joinOfNoneAndAll() {
        says("0 TONES of both, 1 of either, 2 of just one, 3 of the first alone");
        for (int m = LEAST_M; m <= MOST_M; m++) {
            int all = allTones(m);
            int[] noneWithAll = {0, all, all, 0};
            int[] allWithNone = {0, all, all, all};
            for (int kind = 0; kind < 4; kind++) {
                due("none with all by " + kind, shelf(m, 0, all).join(0, 1, kind), noneWithAll[kind]);
                due("all with none by " + kind, shelf(m, 0, all).join(1, 0, kind), allWithNone[kind]);
            }
        }
    }

    private static void joinToNone() {
        says("the SET then");
        for (int kind : new int[] {0, 2, 3}) {
            int other = kind == 0 ? set(2, 3) : set(0, 1);
            ToneSets x = shelf(12, set(0, 1), other);
            due("to none by " + kind, x.join(0, 1, kind), 0);
            due("the shelf", places(x), "0 " + other + " ");
            due("it can be undone", x.told(8), 4);
        }
    }

    // ---- promise 15

    private static void swapPlaces() {
        says("SETS at p and q change about .. UNKNOWN.");
        ToneSets x = shelf(12, 3, 9, 6);
        due("the first and the last", x.swap(0, 2), 0);
        due("the shelf", places(x), "6 9 3 ");
        due("the last and the first", x.swap(2, 0), 0);
        due("the shelf then", places(x), "3 9 6 ");
        for (int p : new int[] {-1, 3, 8, MIN, MAX}) {
            due("swap(" + p + ", 0)", x.swap(p, 0), UNKNOWN);
            due("swap(0, " + p + ")", x.swap(0, p), UNKNOWN);
            due("swap(" + p + ", " + p + ")", x.swap(p, p), UNKNOWN);
        }
    }

    private static void swapAnswers() {
        says("1, if they have unlike FORMS, 0 if not");
        due("like sets", shelf(12, 5, 5).swap(0, 1), 0);
        due("turns", shelf(12, set(0, 2), set(11, 1)).swap(0, 1), 0);
        due("mirrors", shelf(12, set(0, 1, 3), set(0, 2, 3)).swap(0, 1), 0);
        due("0 and 0", shelf(12, 0, 0).swap(0, 1), 0);
        due("0 and one", shelf(12, 0, 1).swap(0, 1), 1);
        due("twins", shelf(12, set(0, 1, 4, 6), set(0, 1, 3, 7)).swap(0, 1), 1);
    }

    private static void swapWithItself() {
        says("SETS at p and q change about");
        ToneSets x = shelf(12, 3, 5);
        due("swap(1, 1)", x.swap(1, 1), 0);
        due("the shelf", places(x), "3 5 ");
    }

    // ---- promise 16

    private static void takePlaces() {
        says("A PLACE goes: how many are left. UNKNOWN.");
        ToneSets x = shelf(12, 3, 5, 6);
        for (int p : new int[] {-1, 3, 7, 8, MIN, MAX}) {
            due("take(" + p + ")", x.take(p), UNKNOWN);
        }
        due("the last", x.take(2), 2);
        due("it is gone", x.take(2), UNKNOWN);
        due("the first", x.take(0), 1);
        due("the shelf", places(x), "5 ");
    }

    private static void takeTheLast() {
        says("how many are left");
        ToneSets x = shelf(12, 3);
        due("the only one", x.take(0), 0);
        due("from an empty shelf", x.take(0), UNKNOWN);
        due("the next that comes", x.put(7), 0);
    }

    // ---- promise 17

    private static void driftBounds() {
        says("n times BY DRAWS (1 .. 8): PLACES. OUTSIDE.");
        due("drift(0)", new ToneSets().drift(0), OUTSIDE);
        due("drift(1)", new ToneSets().drift(1), 1);
        due("drift(8)", new ToneSets().drift(8), 8);
        due("drift(9)", new ToneSets().drift(9), OUTSIDE);
        due("drift(-1)", new ToneSets().drift(-1), OUTSIDE);
        for (int n : FAR_OFF) {
            due("drift(" + n + ")", new ToneSets().drift(n), OUTSIDE);
        }
    }

    private static void driftWhileThereIsRoom() {
        says("n times, while there is room");
        for (int there = 0; there <= 8; there++) {
            for (int n = 1; n <= 8; n++) {
                ToneSets x = new ToneSets();
                for (int p = 0; p < there; p++) {
                    x.put(1);
                }
                int come = Math.min(n, 8 - there);
                due("drift(" + n + ") with " + there, x.drift(n), there + come);
                due("the seed then", x.told(9), seedAfter(0, come));
                due("deeds then", x.told(8), there + come);
            }
        }
    }

    private static int seedAfter(int seed, int draws) {
        long then = seed;
        for (int i = 0; i < draws; i++) {
            then = (then * 1103515245L + 12345L) % 2147483648L;
        }
        return (int) then;
    }

    private static void driftWithoutRoom() {
        says("while there is room");
        ToneSets x = shelf(12, 1, 2, 3, 4, 5, 6, 7, 8);
        x.seed(7);
        due("drift(1)", x.drift(1), 8);
        due("drift(8)", x.drift(8), 8);
        due("no draw", x.told(9), 7);
        due("no deed", x.told(8), 9);
        due("the shelf", places(x), "1 2 3 4 5 6 7 8 ");
        due("drift(9) is refused all the same", x.drift(9), OUTSIDE);
    }

    private static void driftOfTheFirstSeed() {
        says("THE SEED (0 at first: each DRAW it becomes it times 1103515245 and 12345, left over by 2 to the 31");
        ToneSets x = new ToneSets();
        x.drift(1);
        due("the first", x.told(9), 12345);
        x.drift(1);
        due("the second", x.told(9), seedAfter(0, 2));
        for (int seed : new int[] {1, 65535, 65536, 1 << 30, MAX - 1, MAX}) {
            ToneSets y = new ToneSets();
            y.seed(seed);
            y.drift(8);
            due("eight draws from " + seed, y.told(9), seedAfter(seed, 8));
        }
    }

    private static void driftLeftOver() {
        says("a DRAW of 2 to the M is the SET of a PLACE that comes");
        for (int m = LEAST_M; m <= MOST_M; m++) {
            for (int seed : new int[] {0, 1, 1 << 30, MAX}) {
                ToneSets x = shelf(m);
                x.seed(seed);
                x.drift(8);
                for (int p = 0; p < 8; p++) {
                    due("draw " + p + " from " + seed + ", ring of " + m, x.at(p, 0), seedAfter(seed, p + 1) / 65536 % (1 << m));
                }
            }
        }
    }

    // ---- promise 18

    private static ToneSets withDeeds(int deeds) {
        ToneSets x = shelf(12, 0);
        x.keep(0);
        for (int i = 0; i < deeds; i++) {
            x.change(0, 4, i % 12);
        }
        return x;
    }

    private static int afterToggles(int deeds) {
        int set = 0;
        for (int i = 0; i < deeds; i++) {
            set ^= 1 << i % 12;
        }
        return set;
    }

    private static void undoBounds() {
        says("The n latest (1 .. 16) are undone: PLACES. OUTSIDE");
        due("undo(0)", withDeeds(20).undo(0), OUTSIDE);
        due("undo(1)", withDeeds(20).undo(1), 1);
        due("undo(16)", withDeeds(20).undo(16), 1);
        due("undo(17)", withDeeds(20).undo(17), OUTSIDE);
        due("undo(-1)", withDeeds(20).undo(-1), OUTSIDE);
        for (int n : FAR_OFF) {
            due("undo(" + n + ")", withDeeds(20).undo(n), OUTSIDE);
        }
    }

    private static void undoNotSoMany() {
        says("NOT: not so many.");
        for (int deeds = 0; deeds < 16; deeds++) {
            for (int n = deeds + 1; n <= 16; n++) {
                due("undo(" + n + ") of " + deeds, withDeeds(deeds).undo(n), NOT);
            }
        }
    }

    private static void undoAsMany() {
        says("The n latest (1 .. 16) are undone: PLACES.");
        for (int deeds = 1; deeds <= 40; deeds++) {
            for (int n = 1; n <= Math.min(deeds, 16); n++) {
                ToneSets x = withDeeds(deeds);
                due("undo(" + n + ") of " + deeds, x.undo(n), 1);
                due("the set then", x.at(0, 0), afterToggles(deeds - n));
                due("left to be undone", x.told(8), Math.min(deeds, 16) - n);
            }
        }
    }

    private static void undoKeepsSixteen() {
        says("(16 at most are kept)");
        for (int deeds : new int[] {15, 16, 17, 31, 32, 33, 48}) {
            ToneSets x = withDeeds(deeds);
            int kept = Math.min(deeds, 16);
            due("kept of " + deeds, x.told(8), kept);
            for (int i = 0; i < kept; i++) {
                due("one by one", x.undo(1), 1);
            }
            due("the oldest that is kept of " + deeds, x.at(0, 0), afterToggles(deeds - kept));
            due("no more of " + deeds, x.undo(1), NOT);
        }
    }

    private static void undoSinceTheImage() {
        says("since the IMAGE");
        ToneSets x = shelf(12, 1, 2);
        x.keep(1);
        due("nothing since it was kept", x.undo(1), NOT);
        x.put(3);
        due("more than since it was kept", x.undo(2), NOT);
        due("what came since", x.undo(1), 2);
        x.put(4);
        x.goBack(1);
        due("nothing since it came back", x.undo(1), NOT);
        x.take(0);
        due("more than since it came back", x.undo(2), NOT);
        due("what went since", x.undo(1), 2);
        due("the shelf", places(x), "1 2 ");
    }

    private static void undoEachDeed() {
        says("the latest deeds (ring(), put(), change(), join(), swap(), take(), each PLACE BY DRAWS)");
        for (int deed = 0; deed < 8; deed++) {
            ToneSets x = shelf(9, 11, 19, 0, 37);
            x.keep(0);
            act(x, deed);
            due("deeds of kind " + deed, x.told(8), 1);
            due("undone, kind " + deed, x.undo(1), 4);
            due("the shelf, kind " + deed, places(x), "11 19 0 37 ");
            due("M, kind " + deed, x.told(0), 9);
            due("no more, kind " + deed, x.told(8), 0);
        }
    }

    private static void act(ToneSets x, int deed) {
        switch (deed) {
            case 0: x.ring(12); break;
            case 1: x.put(5); break;
            case 2: x.change(1, 0, 3); break;
            case 3: x.join(0, 1, 2); break;
            case 4: x.swap(0, 3); break;
            case 5: x.take(1); break;
            case 6: x.drift(1); break;
            default: x.ring(9); break;
        }
    }

    private static void undoWhatChangedNothing() {
        says("the latest deeds (ring(), put(), change(), join(), swap(), take()");
        ToneSets x = shelf(12, 3);
        x.keep(0);
        x.change(0, 0, 0);
        x.change(0, 2, 1);
        x.change(0, 5, 0);
        x.join(0, 0, 1);
        x.swap(0, 0);
        due("deeds", x.told(8), 5);
        x.put(9);
        due("undo(1)", x.undo(1), 1);
        due("deeds then", x.told(8), 5);
        due("undo(5)", x.undo(5), 1);
        due("the shelf", places(x), "3 ");
    }

    private static void undoEachDrawnPlace() {
        says("each PLACE BY DRAWS");
        for (int n = 1; n <= 8; n++) {
            ToneSets x = new ToneSets();
            x.seed(3);
            x.drift(8);
            due("deeds", x.told(8), 8);
            due("undo(" + n + ")", x.undo(n), 8 - n);
            due("the seed stays", x.told(9), 1018653819);
        }
    }

    private static void undoOfWhatIsNoDeed() {
        says("the latest deeds (ring(), put(), change(), join(), swap(), take(), each PLACE BY DRAWS)");
        ToneSets x = shelf(12, 3);
        x.write(0, 0);
        x.seed(8);
        x.tear();
        x.told(4);
        x.at(0, 2);
        due("deeds", x.told(8), 2);
        due("undo(1)", x.undo(1), 0);
        due("an undone deed is none", x.told(8), 1);
    }

    private static void undoLeavesSeedAndBook() {
        says("THE SEED, THE BOOK stay");
        ToneSets x = shelf(12, 1, 4);
        x.seed(99);
        x.write(1, 2);
        x.put(7);
        x.write(2, 5);
        x.seed(98);
        due("undo(2)", x.undo(2), 1);
        due("the seed", x.told(9), 98);
        due("the book", x.told(6), 2);
        due("wrong", x.told(7), 0);
        due("put", x.put(4), 1);
        due("right again but for the second", x.told(7), 1);
    }

    private static void undoBringsTheRingBack() {
        says("M, THE SHELF are as ahead of them");
        ToneSets x = shelf(7, 1, 127);
        x.ring(12);
        x.put(4095);
        x.ring(5);
        due("undo(1)", x.undo(1), 1);
        due("M", x.told(0), 12);
        due("the shelf", places(x), "4095 ");
        due("undo(2)", x.undo(2), 2);
        due("M then", x.told(0), 7);
        due("the shelf then", places(x), "1 127 ");
        due("the bound of a set then", x.put(128), OUTSIDE);
        due("undo(3)", x.undo(3), 0);
        due("no more", x.told(8), 0);
        due("M at last", x.told(0), 12);
    }

    private static void deedBehindUndo() {
        says("UNDONE: the latest deeds");
        ToneSets x = shelf(12, 1, 2, 3);
        x.undo(2);
        x.put(5);
        due("deeds", x.told(8), 3);
        due("the shelf", places(x), "1 5 ");
        due("undo(1)", x.undo(1), 1);
        due("undo(1) again", x.undo(1), 0);
        due("undo(1) at last", x.undo(1), 0);
        due("no more", x.undo(1), NOT);
    }
}

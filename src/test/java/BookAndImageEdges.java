/** The edges of promises 19 to 23, the book, the seed and the images: one test for each sentence. */
public final class BookAndImageEdges extends Checks {
    public static void main(String[] args) {
        writePlaces();
        writeFull();
        writeAny();
        writeOfNought();
        writeOfPlaceNought();
        wrongIsTheFirst();
        wrongByOne();
        wrongWhenAPlaceIsNoMore();
        wrongWhenNothingIsLeft();
        wrongWhenASetIsNought();
        wrongWhenPlaceNoughtIsNought();
        wrongInAnotherRing();
        wrongIsNow();
        entriesKeepTheirPlace();
        tearOfNone();
        tearOfAFullBook();
        seedBounds();
        seedAnswersWhatItWas();
        keepImages();
        keepEndsUndoing();
        keepAgain();
        keepOfAnEmptyShelf();
        keepOfAFullShelf();
        imagesAreApart();
        imagesKeepRingShelfAndSeed();
        goBackImages();
        goBackToWhatWasNotKept();
        goBackEndsUndoing();
        goBackLeavesTheBook();
        goBackAgain();
        imagesStayWhenUndone();
        end("book and image edges");
    }

    // ---- promise 19

    private static void writePlaces() {
        says("An entry behind THE BOOK (the WAY from PLACE 0 to p is v, any): how many. UNKNOWN");
        due("on an empty shelf", new ToneSets().write(0, 0), UNKNOWN);
        ToneSets x = shelf(12, 1, 2, 4);
        for (int p : new int[] {-1, 3, 7, 8, MIN, MAX}) {
            due("write(" + p + ", 0)", x.write(p, 0), UNKNOWN);
        }
        due("the first place", x.write(0, 0), 1);
        due("the last place", x.write(2, 2), 2);
        due("all are right", x.told(7), NONE);
    }

    private static void writeFull() {
        says("FULL (20)");
        ToneSets x = shelf(12, 1, 2);
        for (int i = 1; i <= 20; i++) {
            due("entry " + i, x.write(1, 1), i);
        }
        due("behind the last", x.write(1, 7), FULL);
        due("how many", x.told(6), 20);
        due("all are right", x.told(7), NONE);
        x.tear();
        due("the first again", x.write(1, 1), 1);
    }

    private static void writeAny() {
        says("is v, any");
        int[] any = {MIN, FULL, NOT, OUTSIDE, UNKNOWN, NONE, 0, 1, MAX};
        for (int v : any) {
            ToneSets x = shelf(12, 1, 2);
            due("write(1, " + v + ")", x.write(1, v), 1);
            due("wrong", x.told(7), v == 1 ? NONE : 0);
        }
    }

    private static void writeOfNought() {
        says("An entry behind THE BOOK (the WAY from PLACE 0 to p is v, any): how many.");
        ToneSets x = shelf(12, 0, 0);
        due("from 0 to 0", x.write(1, 0), 1);
        due("it is wrong", x.told(7), 0);
        x.change(0, 4, 3);
        x.change(1, 4, 3);
        due("right when neither is 0", x.told(7), NONE);
    }

    private static void writeOfPlaceNought() {
        says("the WAY from PLACE 0 to p is v");
        ToneSets x = shelf(12, set(0, 1));
        x.write(0, 0);
        due("from place 0 to itself", x.told(7), NONE);
        x.write(0, 1);
        due("otherwise", x.told(7), 1);
    }

    // ---- promise 2: WRONG

    private static void wrongIsTheFirst() {
        says("WRONG: the first that is otherwise now");
        for (int first = 0; first < 20; first++) {
            ToneSets x = shelf(12, 1, 2);
            for (int i = 0; i < 20; i++) {
                x.write(1, i < first ? 1 : 2);
            }
            due("the first of several", x.told(7), first);
        }
        ToneSets x = shelf(12, 1, 2);
        for (int i = 0; i < 20; i++) {
            x.write(1, i == 7 ? 9 : 1);
        }
        due("the only one", x.told(7), 7);
    }

    private static void wrongByOne() {
        says("that is otherwise now");
        for (int v = 4; v <= 6; v++) {
            ToneSets x = shelf(12, set(0), set(5));
            x.write(1, v);
            due("a way of 5 told as " + v, x.told(7), v == 5 ? NONE : 0);
        }
    }

    private static void wrongWhenAPlaceIsNoMore() {
        says("(a PLACE that there is no more");
        ToneSets x = shelf(12, 1, 2, 4);
        x.write(1, 1);
        x.write(2, 2);
        x.take(2);
        due("the last place is gone", x.told(7), 1);
        x.put(4);
        due("there is such a place again", x.told(7), NONE);
        ToneSets y = shelf(12, 1, 2);
        for (int v : new int[] {UNKNOWN, NONE, 0}) {
            y.write(1, v);
        }
        y.take(1);
        due("whatever it tells", y.told(7), 0);
    }

    private static void wrongWhenNothingIsLeft() {
        says("(a PLACE that there is no more");
        ToneSets x = shelf(12, 1);
        x.write(0, 0);
        due("right", x.told(7), NONE);
        x.take(0);
        due("place 0 is gone", x.told(7), 0);
        x.undo(1);
        due("place 0 is back", x.told(7), NONE);
    }

    private static void wrongWhenASetIsNought() {
        says("a SET 0: it is, too)");
        for (int v : new int[] {0, 2, NOT, NONE, UNKNOWN, MAX}) {
            ToneSets x = shelf(12, 1, 0);
            x.write(1, v);
            due("a way to 0 told as " + v, x.told(7), 0);
        }
    }

    private static void wrongWhenPlaceNoughtIsNought() {
        says("a SET 0: it is, too)");
        for (int v : new int[] {0, 2, NOT, NONE, UNKNOWN, MAX}) {
            ToneSets x = shelf(12, 0, 1);
            x.write(1, v);
            due("a way from 0 told as " + v, x.told(7), 0);
            x.tear();
            x.write(0, v);
            due("a way from 0 to 0 told as " + v, x.told(7), 0);
        }
    }

    private static void wrongInAnotherRing() {
        says("the first that is otherwise now");
        ToneSets x = shelf(12, set(0), set(4));
        x.write(1, 4);
        x.ring(5);
        due("on the empty shelf", x.told(7), 0);
        x.put(set(0));
        due("place 1 is not there yet", x.told(7), 0);
        x.put(set(4));
        due("the way is shorter in the ring of 5", x.told(7), 0);
        x.write(1, 1);
        x.undo(3);
        due("as ahead of the ring", x.told(7), 1);
    }

    private static void wrongIsNow() {
        says("that is otherwise now");
        ToneSets x = shelf(12, set(0), set(4));
        x.write(1, 4);
        x.change(0, 0, 1);
        due("place 0 has changed", x.told(7), 0);
        x.change(1, 0, 1);
        due("the other, too", x.told(7), NONE);
        x.swap(0, 1);
        due("the way back is as long", x.told(7), NONE);
    }

    /** An entry tells of a place by its number, whichever set comes to it. */
    private static void entriesKeepTheirPlace() {
        says("tells WAY from PLACE 0 to another PLACE");
        ToneSets x = shelf(12, set(0), set(1), set(5), set(3));
        x.write(1, 1);
        x.write(2, 5);
        x.take(1);
        due("place 1 has the next set", x.told(7), 0);
        x.tear();
        x.write(1, 5);
        x.write(2, 3);
        due("the sets as they are now", x.told(7), NONE);
        x.take(0);
        due("place 0 has the next set", x.told(7), 0);
    }

    // ---- promise 20

    private static void tearOfNone() {
        says("No BOOK: how much it had.");
        ToneSets x = new ToneSets();
        due("at first", x.tear(), 0);
        x.put(1);
        x.write(0, 9);
        due("of one", x.tear(), 1);
        due("again", x.tear(), 0);
        due("entries", x.told(6), 0);
        due("wrong", x.told(7), NONE);
        due("no deed", x.told(8), 1);
    }

    private static void tearOfAFullBook() {
        says("how much it had");
        ToneSets x = shelf(12, 1);
        for (int i = 0; i < 21; i++) {
            x.write(0, 3);
        }
        due("of a full one", x.tear(), 20);
        for (int i = 1; i <= 20; i++) {
            due("from the front again", x.write(0, 0), i);
        }
        due("the old entries have no say", x.told(7), NONE);
    }

    // ---- promise 21

    private static void seedBounds() {
        says("THE SEED becomes v (0 .. 2147483647) .. OUTSIDE.");
        ToneSets x = new ToneSets();
        due("seed(2147483647)", x.seed(2147483647), 0);
        due("the largest", x.told(9), 2147483647);
        due("seed(-1)", x.seed(-1), OUTSIDE);
        due("seed(-2147483648)", x.seed(MIN), OUTSIDE);
        due("seed(UNKNOWN)", x.seed(UNKNOWN), OUTSIDE);
        due("seed(0)", x.seed(0), 2147483647);
        due("the least", x.told(9), 0);
    }

    private static void seedAnswersWhatItWas() {
        says("what it was");
        ToneSets x = new ToneSets();
        due("0 at first", x.seed(5), 0);
        due("as it was", x.seed(5), 5);
        x.drift(1);
        due("behind a draw", x.seed(0), (int) ((5L * 1103515245L + 12345L) % 2147483648L));
        due("no deed", x.told(8), 1);
    }

    // ---- promise 22

    private static void keepImages() {
        says("IMAGE i becomes what is so .. 1. UNKNOWN.");
        ToneSets x = shelf(12, 3);
        due("keep(-1)", x.keep(-1), UNKNOWN);
        due("keep(2)", x.keep(2), UNKNOWN);
        for (int i : FAR_OFF) {
            due("keep(" + i + ")", x.keep(i), UNKNOWN);
        }
        due("still to be undone", x.told(8), 2);
        due("keep(0)", x.keep(0), 1);
        due("keep(1)", x.keep(1), 1);
    }

    private static void keepEndsUndoing() {
        says("(nothing can be undone then)");
        for (int i = 0; i < 2; i++) {
            ToneSets x = shelf(12, 3, 5);
            x.keep(i);
            due("told(8)", x.told(8), 0);
            due("undo(1)", x.undo(1), NOT);
            due("the shelf stays", x.at(1, 0), 5);
            due("so do the places", x.told(1), 2);
        }
    }

    private static void keepAgain() {
        says("IMAGE i becomes what is so");
        for (int i = 0; i < 2; i++) {
            ToneSets x = shelf(7, 3, 5);
            x.keep(i);
            x.ring(5);
            x.put(30);
            x.keep(i);
            x.ring(12);
            due("back", x.goBack(i), 1);
            due("the later one", x.told(0), 5);
            due("its shelf", x.at(0, 0), 30);
            due("its places", x.told(1), 1);
        }
    }

    private static void keepOfAnEmptyShelf() {
        says("IMAGE i becomes what is so");
        ToneSets x = new ToneSets();
        due("keep(0) at first", x.keep(0), 1);
        x.put(3);
        x.ring(5);
        x.put(4);
        due("goBack(0)", x.goBack(0), 1);
        due("M", x.told(0), 12);
        due("places", x.told(1), 0);
        due("at(0, 0)", x.at(0, 0), UNKNOWN);
    }

    private static void keepOfAFullShelf() {
        says("IMAGE i becomes what is so");
        ToneSets x = shelf(12, 10, 11, 12, 13, 14, 15, 16, 17);
        x.keep(1);
        x.ring(6);
        x.goBack(1);
        for (int p = 0; p < 8; p++) {
            due("place " + p, x.at(p, 0), 10 + p);
        }
        due("put", x.put(1), FULL);
    }

    private static void imagesAreApart() {
        says("IMAGES 0, 1 keep M, THE SHELF, THE SEED.");
        ToneSets x = shelf(7, 3);
        x.seed(70);
        x.keep(0);
        x.ring(9);
        x.put(511);
        x.put(5);
        x.seed(90);
        x.keep(1);
        for (int round = 0; round < 2; round++) {
            x.goBack(0);
            due("M of image 0", x.told(0), 7);
            due("places of image 0", x.told(1), 1);
            due("seed of image 0", x.told(9), 70);
            x.goBack(1);
            due("M of image 1", x.told(0), 9);
            due("places of image 1", x.told(1), 2);
            due("seed of image 1", x.told(9), 90);
        }
    }

    private static void imagesKeepRingShelfAndSeed() {
        says("IMAGES 0, 1 keep M, THE SHELF, THE SEED.");
        for (int m = LEAST_M; m <= MOST_M; m++) {
            ToneSets x = shelf(m, allTones(m), 0, 1);
            x.seed(MAX);
            x.keep(0);
            x.change(0, 3, 0);
            x.take(1);
            x.drift(2);
            x.goBack(0);
            due("M", x.told(0), m);
            due("places", x.told(1), 3);
            due("the first", x.at(0, 0), allTones(m));
            due("the second", x.at(1, 0), 0);
            due("the third", x.at(2, 0), 1);
            due("the seed", x.told(9), MAX);
        }
    }

    // ---- promise 23

    private static void goBackImages() {
        says("What is so becomes IMAGE i .. 1. UNKNOWN");
        ToneSets x = shelf(12, 3);
        x.keep(0);
        x.keep(1);
        x.put(5);
        due("goBack(-1)", x.goBack(-1), UNKNOWN);
        due("goBack(2)", x.goBack(2), UNKNOWN);
        for (int i : FAR_OFF) {
            due("goBack(" + i + ")", x.goBack(i), UNKNOWN);
        }
        due("still there", x.told(1), 2);
        due("goBack(1)", x.goBack(1), 1);
        due("goBack(0)", x.goBack(0), 1);
    }

    private static void goBackToWhatWasNotKept() {
        says("NOT: it was not kept.");
        for (int kept = 0; kept < 2; kept++) {
            ToneSets x = shelf(12, 3);
            due("image 0", x.goBack(0), NOT);
            due("image 1", x.goBack(1), NOT);
            x.keep(kept);
            x.put(5);
            due("the other", x.goBack(1 - kept), NOT);
            due("it changed nothing", x.told(8), 1);
            due("the one that was kept", x.goBack(kept), 1);
            due("the other still", x.goBack(1 - kept), NOT);
        }
    }

    private static void goBackEndsUndoing() {
        says("(nothing can be undone then)");
        for (int i = 0; i < 2; i++) {
            ToneSets x = shelf(12, 3);
            x.keep(i);
            x.put(5);
            x.put(6);
            x.goBack(i);
            due("told(8)", x.told(8), 0);
            due("undo(1)", x.undo(1), NOT);
            due("places", x.told(1), 1);
        }
    }

    private static void goBackLeavesTheBook() {
        says("IMAGES 0, 1 keep M, THE SHELF, THE SEED.");
        ToneSets x = shelf(12, 1, 2);
        x.write(1, 1);
        x.keep(0);
        x.write(1, 5);
        x.goBack(0);
        due("entries", x.told(6), 2);
        due("wrong", x.told(7), 1);
        x.tear();
        x.goBack(0);
        due("a torn book stays torn", x.told(6), 0);
    }

    private static void goBackAgain() {
        says("What is so becomes IMAGE i");
        ToneSets x = shelf(12, 1, 2);
        x.keep(0);
        for (int round = 0; round < 3; round++) {
            x.change(0, 3, 0);
            x.take(1);
            x.drift(8);
            x.goBack(0);
            due("places", x.told(1), 2);
            due("the first", x.at(0, 0), 1);
            due("the second", x.at(1, 0), 2);
            due("the seed", x.told(9), 0);
        }
    }

    private static void imagesStayWhenUndone() {
        says("UNDONE .. M, THE SHELF are as ahead of them");
        ToneSets x = shelf(12, 1);
        x.keep(0);
        x.put(2);
        x.undo(1);
        x.put(3);
        due("the image is still there", x.goBack(0), 1);
        due("places", x.told(1), 1);
        due("the first", x.at(0, 0), 1);
    }
}

import java.util.ArrayDeque;
import java.util.Arrays;
import java.util.List;

/** The edges that the document names under "What it is" and "Terms": one test for each sentence. */
public final class TermEdges extends Checks {
    public static void main(String[] args) {
        callsUpToTheLast();
        askedUpToTheLast();
        numbersBeginAtNought();
        refusalsAreFarBelow();
        sizesOfTheRing();
        theLastToneIsNextToNought();
        theShorterWayRound();
        setsAsNumbers();
        placesAtMost();
        placesAsTheyCame();
        laterPlacesMoveUp();
        turned();
        mirrored();
        times();
        numbersOfImages();
        form();
        kin();
        intervals();
        twinsOfAsManyTones();
        twinsAreUnlike();
        formsOfSoManyTones();
        formsRise();
        wayOfAsMany();
        wayOfMore();
        wayOfFewer();
        wayOfLikeSets();
        wayIsTheLeast();
        nearestIsTheFirst();
        nearestIsTheLeast();
        easyOfLikeSets();
        easyGoesNextDoorOnly();
        easyLeavesTheFirstOut();
        easyCountsTheLast();
        easyIsTheLeast();
        roundOfFew();
        roundLeavesNoughtOut();
        roundBeginsAtPlaceNought();
        roundBeginsAtTheFirstOther();
        roundDoesNotGoBack();
        roundTakesEachPlaceOnce();
        roundIsTheLeast();
        insideCountsEachPartOnce();
        insideOfNoughtAndAll();
        end("term edges");
    }

    // ---- What it is

    private static void callsUpToTheLast() {
        says("An object is used for at most 512 calls after it has been made");
        ToneSets x = new ToneSets();
        x.put(1);
        for (int call = 2; call <= 510; call++) {
            x.change(0, 0, 1);
        }
        due("call 511, told(8)", x.told(8), 16);
        due("call 512, at(0, 0)", x.at(0, 0), set(509 % 12));
    }

    /** What is asked is worked out anew each time; the last answer is as good as the first. */
    private static void askedUpToTheLast() {
        says("An object is used for at most 512 calls after it has been made");
        int low = set(0, 1, 2, 3, 4, 5);
        int high = set(6, 7, 8, 9, 10, 11);
        ToneSets x = shelf(12, low, high, set(0, 1, 4), 0);
        int first = x.easy(0, 1, 0);
        int next = x.easy(0, 1, 1);
        for (int call = 8; call <= 512; call += 5) {
            due("call " + call + ", easy", x.easy(0, 1, 0), first);
            due("then, next", x.easy(0, 1, 1), next);
            due("then, way", x.way(0, 1), 6 * 3);
            due("then, nearest", x.nearest(0, 1, 0), 6);
            due("then, round", x.told(4), 3 + 16);
        }
    }

    // ---- Terms

    private static void numbersBeginAtNought() {
        says("What has a number has it from 0 on.");
        ToneSets x = new ToneSets();
        due("the first place", x.put(1), 0);
        due("the first form", x.formAt(1, 0), 1);
        due("the first image of a set", x.nearest(0, 0, 0), 0);
        x.write(0, 5);
        due("the first entry", x.told(7), 0);
        due("the first image", x.keep(0), 1);
    }

    private static void refusalsAreFarBelow() {
        says("They are far below all that is counted: -1000000001 and on.");
        due("NONE", ToneSets.NONE, -1);
        due("UNKNOWN", ToneSets.UNKNOWN, -1000000001);
        due("OUTSIDE", ToneSets.OUTSIDE, -1000000002);
        due("NOT", ToneSets.NOT, -1000000003);
        due("FULL", ToneSets.FULL, -1000000004);
    }

    // ---- 1

    private static void sizesOfTheRing() {
        says("M 5 .. 12; 12 at first");
        ToneSets x = new ToneSets();
        due("told(0)", x.told(0), 12);
        due("ring(4)", x.ring(4), OUTSIDE);
        due("ring(5)", x.ring(5), 12);
        due("told(0)", x.told(0), 5);
        due("ring(13)", x.ring(13), OUTSIDE);
        due("ring(12)", x.ring(12), 5);
        due("told(0)", x.told(0), 12);
    }

    private static void theLastToneIsNextToNought() {
        says("next to the last TONE 0");
        for (int m = LEAST_M; m <= MOST_M; m++) {
            ToneSets x = shelf(m, set(m - 1), set(0), set(0, m - 1));
            due("way in a ring of " + m, x.way(0, 1), 1);
            due("interval in a ring of " + m, x.interval(2, 1), 1);
            due("easy up in a ring of " + m, x.easy(0, 1, 0), 1);
            due("easy up, next, in a ring of " + m, x.easy(0, 1, 1), set(0));
            due("easy down in a ring of " + m, x.easy(1, 0, 0), 1);
            due("easy down, next, in a ring of " + m, x.easy(1, 0, 1), set(m - 1));
        }
    }

    private static void theShorterWayRound() {
        says("by how many steps one gets from one to the other, the shorter way round");
        for (int m = LEAST_M; m <= MOST_M; m++) {
            for (int tone = 1; tone < m; tone++) {
                ToneSets x = shelf(m, set(0), set(tone), set(0, tone));
                int near = tone <= m - tone ? tone : m - tone;
                due("way from 0 to " + tone + " in a ring of " + m, x.way(0, 1), near);
                due("way from " + tone + " to 0 in a ring of " + m, x.way(1, 0), near);
                due("easy from 0 to " + tone + " in a ring of " + m, x.easy(0, 1, 0), near);
                for (int d = 1; d <= m / 2; d++) {
                    due("pairs " + d + " apart of 0 and " + tone + " in a ring of " + m, x.interval(2, d), d == near ? 1 : 0);
                }
            }
        }
    }

    private static void setsAsNumbers() {
        says("bit k for TONE k; 0 .. 2 to the M, less 1");
        for (int m = LEAST_M; m <= MOST_M; m++) {
            ToneSets x = shelf(m);
            due("below the least, ring of " + m, x.put(-1), OUTSIDE);
            due("the least, ring of " + m, x.put(0), 0);
            due("the largest, ring of " + m, x.put(allTones(m)), 1);
            due("above the largest, ring of " + m, x.put(allTones(m) + 1), OUTSIDE);
            due("tones of the least", x.at(0, 1), 0);
            due("tones of the largest", x.at(1, 1), m);
            for (int tone = 0; tone < m; tone++) {
                due("tone " + tone + " comes", x.change(0, 4, tone), allTones(tone + 1));
            }
        }
    }

    private static void placesAtMost() {
        says("PLACES (8 at most; none at first)");
        ToneSets x = new ToneSets();
        due("told(1) at first", x.told(1), 0);
        due("at(0, 0) at first", x.at(0, 0), UNKNOWN);
        for (int p = 0; p < 8; p++) {
            due("put", x.put(1), p);
        }
        due("put behind the last", x.put(1), FULL);
        due("told(1) then", x.told(1), 8);
        due("at(7, 0)", x.at(7, 0), 1);
        due("at(8, 0)", x.at(8, 0), UNKNOWN);
    }

    private static void placesAsTheyCame() {
        says("numbered as they came, a SET at each");
        ToneSets x = shelf(12, 40, 30);
        x.seed(3);
        x.drift(1);
        x.put(20);
        int[] want = {40, 30, 1363, 20};
        for (int p = 0; p < want.length; p++) {
            due("at(" + p + ", 0)", x.at(p, 0), want[p]);
        }
    }

    private static void laterPlacesMoveUp() {
        says("if one goes, later ones have one number less");
        for (int gone = 0; gone < 8; gone++) {
            ToneSets x = shelf(12, 100, 101, 102, 103, 104, 105, 106, 107);
            due("take(" + gone + ")", x.take(gone), 7);
            for (int p = 0; p < 7; p++) {
                due("place " + p + " when " + gone + " is gone", x.at(p, 0), 100 + (p < gone ? p : p + 1));
            }
            due("place 7 when " + gone + " is gone", x.at(7, 0), UNKNOWN);
            due("the next that comes", x.put(55), 7);
        }
    }

    private static void turned() {
        says("TURNED by t: each TONE becomes it and t, left over by M.");
        for (int m = LEAST_M; m <= MOST_M; m++) {
            for (int tone = 0; tone < m; tone++) {
                ToneSets x = shelf(m, set(tone));
                for (int t = 0; t < m; t++) {
                    due(tone + " turned by " + t + " in a ring of " + m, x.change(0, 0, t), set((tone + t) % m));
                    x.undo(1);
                }
            }
        }
    }

    private static void mirrored() {
        says("MIRRORED: each TONE becomes M less it, left over by M.");
        for (int m = LEAST_M; m <= MOST_M; m++) {
            for (int tone = 0; tone < m; tone++) {
                due(tone + " mirrored in a ring of " + m, shelf(m, set(tone)).change(0, 1, 0), set(tone == 0 ? 0 : m - tone));
            }
        }
    }

    private static void times() {
        says("TIMES m: each becomes m times it, left over by M.");
        for (int m = LEAST_M; m <= MOST_M; m++) {
            for (int tone = 0; tone < m; tone++) {
                ToneSets x = shelf(m, set(tone));
                for (int v = 1; v < m; v++) {
                    boolean refused = haveCommonDivisor(v, m);
                    due(tone + " times " + v + " in a ring of " + m, x.change(0, 2, v), refused ? NOT : set(tone * v % m));
                    if (!refused) {
                        x.undo(1);
                    }
                }
            }
        }
    }

    /** The set of 0, 1, 3 is in every ring of 6 and more unlike all its other images, and its own form. */
    private static void numbersOfImages() {
        says("IMAGES OF a SET, numbered: t (0 .. M less 1): TURNED by t; M and t: MIRRORED, then TURNED by t.");
        int skew = set(0, 1, 3);
        for (int m = 6; m <= MOST_M; m++) {
            for (int number = 0; number < 2 * m; number++) {
                ToneSets x = shelf(m, image(skew, number, m), skew);
                due("the image that lies nearest, ring of " + m, x.nearest(0, 1, 0), number);
                due("its way, ring of " + m, x.nearest(0, 1, 1), 0);
                due("the image that is the form, ring of " + m, whoseImageIs(skew, number, m).at(0, 4), number);
            }
        }
    }

    private static ToneSets whoseImageIs(int goal, int number, int m) {
        for (int set = 0; set <= allTones(m); set++) {
            if (image(set, number, m) == goal) {
                return shelf(m, set);
            }
        }
        return shelf(m);
    }

    private static void form() {
        says("FORM of a SET: the least of its IMAGES OF it.");
        for (int m = LEAST_M; m <= MOST_M; m++) {
            ToneSets x = shelf(m, 0, allTones(m), set(m - 1), set(0, m - 1), allTones(m) - 1, set(0, 2, 3));
            int[] want = {0, allTones(m), 1, 3, allTones(m - 1), leastImage(set(0, 2, 3), m)};
            for (int p = 0; p < want.length; p++) {
                due("form of " + x.at(p, 0) + " in a ring of " + m, x.at(p, 2), want[p]);
            }
        }
        for (int m = LEAST_M; m <= 8; m++) {
            for (int set = 0; set <= allTones(m); set++) {
                due("form of " + set + " in a ring of " + m, shelf(m, set).at(0, 2), leastImage(set, m));
            }
        }
    }

    private static void kin() {
        says("KIN: how many of its 2 M IMAGES OF it are the SET itself.");
        for (int m = LEAST_M; m <= MOST_M; m++) {
            ToneSets x = shelf(m, 0, allTones(m), set(2), set(0, 1, 3));
            due("of none, ring of " + m, x.at(0, 3), 2 * m);
            due("of all, ring of " + m, x.at(1, 3), 2 * m);
            due("of one, ring of " + m, x.at(2, 3), 2);
            due("of a skew one, ring of " + m, x.at(3, 3), m == 5 ? 2 : 1);
        }
    }

    private static void intervals() {
        says("INTERVALS: for d from 1 to M / 2 how many pairs of its TONES are d APART.");
        for (int m = LEAST_M; m <= MOST_M; m++) {
            ToneSets x = shelf(m, 0, set(m - 1), allTones(m));
            for (int d = 1; d <= m / 2; d++) {
                due("of none, " + d + " apart in a ring of " + m, x.interval(0, d), 0);
                due("of one, " + d + " apart in a ring of " + m, x.interval(1, d), 0);
                due("of all, " + d + " apart in a ring of " + m, x.interval(2, d), 2 * d == m ? m / 2 : m);
            }
        }
    }

    private static void twinsOfAsManyTones() {
        says("TWIN FORMS: unlike ones of as many TONES with like INTERVALS.");
        for (int m = LEAST_M; m <= MOST_M; m++) {
            ToneSets x = shelf(m, 0, 1);
            due("the set 0 and one tone have like intervals, ring of " + m, x.at(0, 5), 0);
            due("one tone and the set 0 have like intervals, ring of " + m, x.at(1, 5), 0);
        }
        due("pairs in a ring of 5", shelf(5).told(3), 0);
    }

    private static void twinsAreUnlike() {
        says("TWIN FORMS: unlike ones");
        ToneSets x = shelf(12, set(0, 1, 4, 6), set(6, 5, 2, 0), set(0, 1, 3, 7), allTones(12));
        due("twins of 0146", x.at(0, 5), 1);
        due("twins of its mirror", x.at(1, 5), 1);
        due("twins of 0137", x.at(2, 5), 1);
        due("twins of all tones", x.at(3, 5), 0);
    }

    private static void formsOfSoManyTones() {
        says("FORMS of k: all SETS of k TONES that are their own FORM");
        for (int m = LEAST_M; m <= MOST_M; m++) {
            int[] counts = new int[m + 1];
            for (int set = 0; set <= allTones(m); set++) {
                counts[Integer.bitCount(set)] += leastImage(set, m) == set ? 1 : 0;
            }
            ToneSets x = shelf(m);
            for (int k = 0; k <= m; k++) {
                due("forms(" + k + ") in a ring of " + m, x.forms(k), counts[k]);
            }
        }
    }

    private static void formsRise() {
        says("numbered rising");
        for (int m = LEAST_M; m <= MOST_M; m++) {
            ToneSets x = shelf(m);
            for (int k = 0; k <= m; k++) {
                int i = 0;
                for (int set = 0; set <= allTones(m); set++) {
                    if (Integer.bitCount(set) == k && leastImage(set, m) == set) {
                        due("formAt(" + k + ", " + i + ") in a ring of " + m, x.formAt(k, i), set);
                        due("the number of " + set, shelf(m, set).at(0, 6), i);
                        i++;
                    }
                }
                due("behind the last of " + k + " in a ring of " + m, x.formAt(k, i), UNKNOWN);
            }
        }
    }

    // ---- 2

    private static void wayOfAsMany() {
        says("if it has no fewer TONES than the other: each of its TONES goes to a TONE of the other, so that each of these is gone to");
        ToneSets x = shelf(12, set(0, 1), set(1, 2), set(0, 6), set(3, 9), set(11, 0), allTones(12));
        due("each is gone to", x.way(0, 1), 2);
        due("over the last tone", x.way(4, 0), 2);
        due("half round", x.way(2, 3), 6);
        due("all to all", x.way(5, 5), 0);
    }

    private static void wayOfMore() {
        says("each of its TONES goes to a TONE of the other, so that each of these is gone to");
        ToneSets x = shelf(12, set(2, 3, 4, 5), set(0, 1), set(0, 1, 2), set(0, 6), allTones(12), set(5));
        due("far goals", x.way(0, 1), 2 + 2 + 3 + 4);
        due("a goal far off is gone to", x.way(2, 3), 0 + 1 + 4);
        due("all to one", x.way(4, 5), 2 * (1 + 2 + 3 + 4 + 5) + 6);
    }

    private static void wayOfFewer() {
        says("if it has fewer, a WAY from the other to it, the other way round");
        ToneSets x = shelf(12, set(2, 3, 4, 5), set(0, 1), set(0, 1, 2), set(0, 6), allTones(12), set(5));
        due("far goals", x.way(1, 0), 2 + 2 + 3 + 4);
        due("a goal far off", x.way(3, 2), 0 + 1 + 4);
        due("one to all", x.way(5, 4), 2 * (1 + 2 + 3 + 4 + 5) + 6);
    }

    private static void wayOfLikeSets() {
        says("Its length: all that TONES go, as they are APART, together.");
        for (int m = LEAST_M; m <= MOST_M; m++) {
            ToneSets x = shelf(m, 1, 1, allTones(m), allTones(m));
            due("one tone stays, ring of " + m, x.way(0, 1), 0);
            due("all tones stay, ring of " + m, x.way(2, 3), 0);
            int together = 0;
            for (int tone = 0; tone < m; tone++) {
                together += apart(tone, 0, m);
            }
            due("all to one, ring of " + m, x.way(2, 0), together);
        }
    }

    private static void wayIsTheLeast() {
        says("WAY: the least length of one.");
        for (int m = LEAST_M; m <= MOST_M; m++) {
            // all pairs in the small rings, a spread of them in the large ones
            int stride = m < 8 ? 1 : 1 + (1 << 2 * m) / 6000;
            for (int pair = 0; pair < 1 << 2 * m; pair += stride) {
                int one = pair >> m;
                int other = pair & allTones(m);
                if (one != 0 && other != 0) {
                    due("from " + one + " to " + other + " in a ring of " + m, shelf(m, one, other).way(0, 1), leastWay(one, other, m));
                }
            }
        }
    }

    /** By which of the smaller set have been gone to, tone by tone of the larger. */
    private static int leastWay(int one, int other, int m) {
        boolean fewer = Integer.bitCount(one) < Integer.bitCount(other);
        int larger = fewer ? other : one;
        int smaller = fewer ? one : other;
        int[] least = new int[1 << m];
        Arrays.fill(least, MAX / 2);
        least[0] = 0;
        for (int tone = 0; tone < m; tone++) {
            if ((larger >> tone & 1) != 0) {
                least = withOneMore(least, tone, smaller, m);
            }
        }
        return least[smaller];
    }

    private static int[] withOneMore(int[] least, int tone, int goals, int m) {
        int[] then = new int[least.length];
        Arrays.fill(then, MAX / 2);
        // all parts of the goals, the set 0 last
        for (int part = goals; part >= 0; part = part == 0 ? -1 : part - 1 & goals) {
            for (int goal = 0; goal < m; goal++) {
                if ((goals >> goal & 1) != 0) {
                    int with = part | 1 << goal;
                    then[with] = Math.min(then[with], least[part] + apart(tone, goal, m));
                }
            }
        }
        return then;
    }

    private static void nearestIsTheFirst() {
        says("of all IMAGES OF the other SET the first by number, to which the WAY is the least");
        for (int m = LEAST_M; m <= MOST_M; m++) {
            ToneSets x = shelf(m, set(0, 1), set(0), set(m - 1), allTones(m), set(m - 2, m - 1));
            due("two lie alike, ring of " + m, x.nearest(0, 1, 0), 0);
            due("a turn ahead of the mirror that is alike, ring of " + m, x.nearest(2, 1, 0), m - 1);
            due("all images are alike, ring of " + m, x.nearest(1, 3, 0), 0);
            due("two that are not the first lie alike, ring of " + m, x.nearest(4, 1, 0), m - 2);
        }
    }

    private static void nearestIsTheLeast() {
        says("to which the WAY is the least");
        for (int m = 6; m <= MOST_M; m++) {
            int skew = set(0, 1, 3);
            ToneSets x = shelf(m, image(skew, 2 * m - 1, m), skew, skew);
            due("the last image, ring of " + m, x.nearest(0, 1, 0), 2 * m - 1);
            due("the first image, ring of " + m, x.nearest(1, 2, 0), 0);
            due("its way, ring of " + m, x.nearest(1, 2, 1), 0);
        }
    }

    private static void easyOfLikeSets() {
        says("the least that it can cost together (0, if they are alike)");
        for (int m = LEAST_M; m <= MOST_M; m++) {
            ToneSets x = shelf(m, 0, 0, allTones(m), allTones(m), set(0, 1, 2), set(0, 1, 2));
            for (int p = 0; p < 6; p += 2) {
                due("easy in a ring of " + m, x.easy(p, p + 1, 0), 0);
                due("easy of a place with itself", x.easy(p, p, 0), 0);
            }
        }
    }

    /** One hole in the ring: it moves only by the tones beside it, over the last tone as well. */
    private static void easyGoesNextDoorOnly() {
        says("each made of the one ahead by one TONE that goes to a TONE next to it that is not in that SET");
        for (int m = LEAST_M; m <= MOST_M; m++) {
            for (int hole = 1; hole < m; hole++) {
                int from = allTones(m) - set(0);
                ToneSets x = shelf(m, from, allTones(m) - set(hole));
                int steps = apart(0, hole, m);
                due("from the hole 0 to " + hole + " in a ring of " + m, x.easy(0, 1, 0), steps * (1 + m - 2));
                int up = allTones(m) - set(1);
                int down = allTones(m) - set(m - 1);
                int next = 2 * hole == m ? Math.min(up, down) : hole < m - hole ? up : down;
                due("next from the hole 0 to " + hole + " in a ring of " + m, x.easy(0, 1, 1), next);
            }
        }
    }

    private static void easyLeavesTheFirstOut() {
        says("each SET but the first costs 1, and 1 more for each pair of its TONES that are 1 APART");
        due("from neighbours", shelf(12, set(0, 1), set(0, 2)).easy(0, 1, 0), 1);
        due("from neighbours over the last tone", shelf(12, set(0, 11), set(1, 11)).easy(0, 1, 0), 1);
    }

    private static void easyCountsTheLast() {
        says("each SET but the first costs 1, and 1 more for each pair");
        due("to neighbours", shelf(12, set(0, 2), set(0, 1)).easy(0, 1, 0), 2);
        due("to neighbours over the last tone", shelf(12, set(1, 11), set(0, 11)).easy(0, 1, 0), 2);
        due("to three in a row", shelf(12, set(0, 1, 3), set(0, 1, 2)).easy(0, 1, 0), 3);
    }

    private static void easyIsTheLeast() {
        says("the least that it can cost together");
        for (int m = LEAST_M; m <= MOST_M; m++) {
            int stride = m < 8 ? 1 : (1 << m) / 25;
            for (int goal = 0; goal <= allTones(m); goal += stride) {
                int[] costs = costsTo(goal, m);
                for (int set = 0; set <= allTones(m); set += m < 8 ? 1 : 7) {
                    if (Integer.bitCount(set) == Integer.bitCount(goal)) {
                        ToneSets x = shelf(m, set, goal);
                        due("from " + set + " to " + goal + " in a ring of " + m, x.easy(0, 1, 0), costs[set]);
                        due("next from " + set + " to " + goal + " in a ring of " + m, x.easy(0, 1, 1), leastNext(set, goal, costs, m));
                    }
                }
            }
        }
    }

    private static int costOf(int set, int m) {
        return 1 + Integer.bitCount(set & image(set, 1, m));
    }

    /** The set when the tones at a place of the ring and at the next one change about. */
    private static int step(int set, int tone, int m) {
        int next = (tone + 1) % m;
        boolean isStep = (set >> tone & 1) != (set >> next & 1);
        return isStep ? set ^ 1 << tone ^ 1 << next : set;
    }

    /** From each set on to the goal: bettered until nothing changes. */
    private static int[] costsTo(int goal, int m) {
        int[] costs = new int[1 << m];
        Arrays.fill(costs, MAX / 2);
        costs[goal] = 0;
        ArrayDeque<Integer> bettered = new ArrayDeque<>(List.of(goal));
        while (!bettered.isEmpty()) {
            int next = bettered.remove();
            int through = costs[next] + costOf(next, m);
            for (int tone = 0; tone < m; tone++) {
                int set = step(next, tone, m);
                if (through < costs[set]) {
                    costs[set] = through;
                    bettered.add(set);
                }
            }
        }
        return costs;
    }

    private static int leastNext(int set, int goal, int[] costs, int m) {
        int least = MAX;
        for (int tone = 0; tone < m; tone++) {
            int next = step(set, tone, m);
            if (next != set && costs[next] + costOf(next, m) == costs[set]) {
                least = Math.min(least, next);
            }
        }
        return set == goal ? NONE : least;
    }

    private static void roundOfFew() {
        says("(0, if there is one or none");
        due("none", new ToneSets().told(4), 0);
        due("one", shelf(12, set(0, 5)).told(4), 0);
        due("two", shelf(12, set(0), set(5)).told(4), 5);
        due("one when all others are 0", shelf(12, 0, 0, set(3), 0).told(4), 0);
        due("none when all are 0", shelf(12, 0, 0, 0, 0, 0, 0, 0, 0).told(4), 0);
    }

    private static void roundLeavesNoughtOut() {
        says("PLACES with the SET 0 are left out");
        due("between others", shelf(12, set(0), 0, set(5), 0).told(4), 5);
        due("last", shelf(12, set(0), set(5), 0).told(4), 5);
    }

    private static void roundBeginsAtPlaceNought() {
        says("beginning at PLACE 0");
        due("from between", shelf(12, set(3), set(0), set(5)).told(4), 2 + 5);
        due("from the end", shelf(12, set(0), set(3), set(5)).told(4), 5);
    }

    private static void roundBeginsAtTheFirstOther() {
        says("if PLACE 0 is one, it begins at the first other one");
        due("place 1", shelf(12, 0, set(3), set(0), set(5)).told(4), 2 + 5);
        due("place 3", shelf(12, 0, 0, 0, set(3), set(0), set(5)).told(4), 2 + 5);
    }

    private static void roundDoesNotGoBack() {
        says("in a row that does not go back to where it began");
        due("there and not back", shelf(12, set(0), set(4)).told(4), 4);
        due("along a row", shelf(12, set(0), set(5), set(3), set(1)).told(4), 5);
    }

    private static void roundTakesEachPlaceOnce() {
        says("if each PLACE comes once");
        due("eight in a row", shelf(12, set(0), set(9), set(1), set(6), set(3), set(2), set(4), set(11)).told(4), 11);
        due("eight with like ones", shelf(12, 1, 1, 1, 1, 1, 1, 1, set(6)).told(4), 6);
        due("the last place counts", shelf(12, 1, 1, 1, 1, 1, 1, set(6), set(1)).told(4), 6);
    }

    private static void roundIsTheLeast() {
        says("the least that WAYS from PLACE to PLACE can be together");
        for (int m = LEAST_M; m <= MOST_M; m++) {
            for (int places = 1; places <= 8; places++) {
                ToneSets x = shelf(m);
                x.seed(100 * m + places);
                x.drift(places);
                int start = 0;
                while (start < places && x.at(start, 0) == 0) {
                    start++;
                }
                int due = start == places ? 0 : leastRow(lengths(x, places), start, 1 << start);
                due("round of " + places + " in a ring of " + m, x.told(4), due);
            }
        }
    }

    private static int[][] lengths(ToneSets x, int places) {
        int[][] lengths = new int[places][places];
        for (int p = 0; p < places; p++) {
            for (int q = 0; q < places; q++) {
                lengths[p][q] = x.way(p, q);
            }
        }
        return lengths;
    }

    /** All rows one by one; a way that is refused is to a place with the set 0. */
    private static int leastRow(int[][] lengths, int last, int visited) {
        int least = MAX;
        for (int next = 0; next < lengths.length; next++) {
            if ((visited >> next & 1) == 0 && lengths[last][next] != NOT) {
                least = Math.min(least, lengths[last][next] + leastRow(lengths, next, visited | 1 << next));
            }
        }
        return least == MAX ? 0 : least;
    }

    // ---- 3

    private static void insideCountsEachPartOnce() {
        says("how many parts (SETS all of whose TONES are in it) of a SET have the FORM of another");
        for (int m = LEAST_M; m <= MOST_M; m++) {
            ToneSets x = shelf(m, allTones(m), set(3), set(1, 2), set(0, 1, 2, 3), set(0, 1, 3));
            due("all in all, ring of " + m, x.inside(0, 0), 1);
            due("one in all, ring of " + m, x.inside(0, 1), m);
            due("neighbours in all, ring of " + m, x.inside(0, 2), m);
            due("neighbours in a row of four, ring of " + m, x.inside(3, 2), 3);
            due("a skew one in all, ring of " + m, x.inside(0, 4), m == 5 ? 5 : 2 * m);
            due("itself, ring of " + m, x.inside(4, 4), 1);
        }
    }

    private static void insideOfNoughtAndAll() {
        says("parts (SETS all of whose TONES are in it)");
        for (int m = LEAST_M; m <= MOST_M; m++) {
            ToneSets x = shelf(m, 0, allTones(m), set(2), allTones(m) - 1);
            due("0 in 0, ring of " + m, x.inside(0, 0), 1);
            due("0 in all, ring of " + m, x.inside(1, 0), 1);
            due("0 in one, ring of " + m, x.inside(2, 0), 1);
            due("one in 0, ring of " + m, x.inside(0, 2), 0);
            due("all in 0, ring of " + m, x.inside(0, 1), 0);
            due("all in all but one, ring of " + m, x.inside(3, 1), 0);
        }
    }
}

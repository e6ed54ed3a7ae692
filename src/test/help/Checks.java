/** What the tests of the project share: answers are compared under the words of the document that are tested. */
abstract class Checks {
    static final int NONE = -1, UNKNOWN = -1000000001, OUTSIDE = -1000000002, NOT = -1000000003, FULL = -1000000004;
    static final int MIN = Integer.MIN_VALUE, MAX = Integer.MAX_VALUE;
    /** Far from all bounds, on either side; the refusals themselves are among them. */
    static final int[] FAR_OFF = {MIN, FULL, NOT, OUTSIDE, UNKNOWN, -4096, 4097, 65536, 1 << 30, MAX};
    static final int LEAST_M = 5, MOST_M = 12;

    private static int wrong = 0;
    private static String sentence = "";

    /** The words of the document that the answers behind this call are due by. */
    static void says(String words) {
        sentence = "\"" + words + "\": ";
    }

    static void due(String call, int got, int want) {
        if (got != want) {
            wrong++;
            System.out.println(sentence + call + " answered " + got + ", due is " + want);
        }
    }

    static void due(String what, String got, String want) {
        if (!got.equals(want)) {
            wrong++;
            System.out.println(sentence + what + "\n  is  " + got + "\n  due " + want);
        }
    }

    /** Ends the test, with exit code 1 if an answer was not as due. */
    static void end(String name) {
        System.out.println(name + (wrong == 0 ? ": all answers are as due" : ": " + wrong + " answers are not as due"));
        if (wrong != 0) {
            System.exit(1);
        }
    }

    static ToneSets shelf(int m, int... sets) {
        ToneSets x = new ToneSets();
        x.ring(m);
        for (int set : sets) {
            x.put(set);
        }
        return x;
    }

    static int set(int... tones) {
        int set = 0;
        for (int tone : tones) {
            set |= 1 << tone;
        }
        return set;
    }

    static int allTones(int m) {
        return (1 << m) - 1;
    }

    static int apart(int one, int other, int m) {
        int steps = Math.floorMod(one - other, m);
        return Math.min(steps, m - steps);
    }

    static int image(int set, int number, int m) {
        int image = 0;
        for (int tone = 0; tone < m; tone++) {
            if ((set >> tone & 1) != 0) {
                int start = number < m ? tone : m - tone;
                image |= 1 << (start + number) % m;
            }
        }
        return image;
    }

    static int leastImage(int set, int m) {
        int least = set;
        for (int number = 0; number < 2 * m; number++) {
            least = Math.min(least, image(set, number, m));
        }
        return least;
    }

    static boolean haveCommonDivisor(int a, int b) {
        int x = a;
        int y = b;
        while (y != 0) {
            int left = x % y;
            x = y;
            y = left;
        }
        return x > 1;
    }
}

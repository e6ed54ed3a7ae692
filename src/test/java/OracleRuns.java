import java.util.Random;

/** Runs of drawn calls on the program and on the plain model of the document; prints every answer that differs. */
public final class OracleRuns {
    private static final int RUNS = 400;
    private static final int CALLS = 512;
    private static int wrong = 0;

    public static void main(String[] args) {
        for (int run = 0; run < RUNS && wrong < 20; run++) {
            new Run(run).play();
        }
        System.out.println(wrong == 0 ? "oracle: all answers are as due" : "oracle: " + wrong + " answers are not as due");
        if (wrong != 0) {
            System.exit(1);
        }
    }

    static void check(String call, int got, int want) {
        if (got != want) {
            wrong++;
            System.out.println(call + " answered " + got + ", due is " + want);
        }
    }

    /** One object and its model, asked the same. */
    private static final class Run {
        private final int number;
        private final Random draws;
        private final ToneSets program = new ToneSets();
        private final Model model = new Model();

        Run(int number) {
            this.number = number;
            draws = new Random(977L * number + 5);
        }

        void play() {
            // some runs start in a small ring, others are rich in deeds, so that the past overflows
            if (number % 3 == 1) {
                int m = 5 + draws.nextInt(8);
                check("run " + number + " ring(" + m + ")", program.ring(m), model.ring(m));
            }
            for (int i = 1; i < CALLS && wrong < 20; i++) {
                step(i);
            }
        }

        private int around(int least, int most) {
            return draws.nextInt(40) == 0 ? farOff() : least + draws.nextInt(most - least + 1);
        }

        private int farOff() {
            int[] far = {Integer.MIN_VALUE, Integer.MAX_VALUE, -1, 1000, -7, 1 << 30, 4096, 13, 17, 21};
            return far[draws.nextInt(far.length)];
        }

        private int place() {
            int places = model.sets.size();
            return draws.nextInt(25) == 0 ? around(-1, 8) : places == 0 ? 0 : draws.nextInt(places);
        }

        private int drawnSet() {
            switch (draws.nextInt(12)) {
                case 0:
                    return 0;
                case 1:
                    return (1 << model.m) - 1;
                case 2:
                    return around(-2, (1 << model.m) + 2);
                default:
                    return draws.nextInt(1 << model.m);
            }
        }

        private void step(int i) {
            int kind = draws.nextInt(100);
            if (kind < 55) {
                ask(i);
            } else if (kind < 88) {
                act(i);
            } else {
                keepBooks(i);
            }
        }

        private void ask(int i) {
            int p = place();
            int q = place();
            int what;
            switch (draws.nextInt(10)) {
                case 0:
                case 1:
                    what = around(-1, 10);
                    tell(i, "told(" + what + ")", program.told(what), model.told(what));
                    break;
                case 2:
                    what = around(-1, 7);
                    tell(i, "at(" + p + ", " + what + ")", program.at(p, what), model.at(p, what));
                    break;
                case 3:
                    what = around(-1, 8);
                    tell(i, "interval(" + p + ", " + what + ")", program.interval(p, what), model.interval(p, what));
                    break;
                case 4:
                    what = around(-1, 13);
                    tell(i, "forms(" + what + ")", program.forms(what), model.forms(what));
                    break;
                case 5:
                    what = around(-1, 13);
                    int n = around(-1, 51);
                    tell(i, "formAt(" + what + ", " + n + ")", program.formAt(what, n), model.formAt(what, n));
                    break;
                case 6:
                    tell(i, "inside(" + p + ", " + q + ")", program.inside(p, q), model.inside(p, q));
                    break;
                case 7:
                    tell(i, "way(" + p + ", " + q + ")", program.way(p, q), model.way(p, q));
                    break;
                case 8:
                    what = around(0, 1);
                    tell(i, "nearest(" + p + ", " + q + ", " + what + ")", program.nearest(p, q, what), model.nearest(p, q, what));
                    break;
                default:
                    what = around(0, 1);
                    q = placeWithAsManyTones(p, q);
                    tell(i, "easy(" + p + ", " + q + ", " + what + ")", program.easy(p, q, what), model.easy(p, q, what));
                    break;
            }
        }

        /** Drawn sets seldom have equally many tones. */
        private int placeWithAsManyTones(int p, int q) {
            if (!model.has(p) || draws.nextInt(5) == 0) {
                return q;
            }
            for (int other = 0; other < model.sets.size(); other++) {
                if (other != p && Integer.bitCount(model.sets.get(other)) == Integer.bitCount(model.sets.get(p))) {
                    return other;
                }
            }
            return q;
        }

        private void act(int i) {
            int p = place();
            int q = place();
            int a;
            switch (draws.nextInt(18)) {
                case 0:
                    a = draws.nextInt(4) == 0 ? around(4, 13) : around(9, 12);
                    tell(i, "ring(" + a + ")", program.ring(a), model.ring(a));
                    break;
                case 1:
                case 2:
                case 3:
                case 4:
                case 5:
                case 6:
                    a = drawnSet();
                    tell(i, "put(" + a + ")", program.put(a), model.put(a));
                    break;
                case 7:
                case 8:
                case 9:
                case 10:
                    a = around(-1, 6);
                    int v = around(-1, 12);
                    tell(i, "change(" + p + ", " + a + ", " + v + ")", program.change(p, a, v), model.change(p, a, v));
                    break;
                case 11:
                case 12:
                    a = around(-1, 4);
                    tell(i, "join(" + p + ", " + q + ", " + a + ")", program.join(p, q, a), model.join(p, q, a));
                    break;
                case 13:
                    tell(i, "swap(" + p + ", " + q + ")", program.swap(p, q), model.swap(p, q));
                    break;
                case 14:
                    tell(i, "take(" + p + ")", program.take(p), model.take(p));
                    break;
                case 15:
                    a = around(0, 9);
                    tell(i, "drift(" + a + ")", program.drift(a), model.drift(a));
                    break;
                default:
                    a = draws.nextInt(3) == 0 ? around(0, 17) : around(1, 3);
                    tell(i, "undo(" + a + ")", program.undo(a), model.undo(a));
                    break;
            }
        }

        private void keepBooks(int i) {
            int p = place();
            int v;
            switch (draws.nextInt(20)) {
                case 0:
                    tell(i, "tear()", program.tear(), model.tear());
                    break;
                case 1:
                case 2:
                    v = draws.nextBoolean() ? draws.nextInt() : draws.nextInt(1 << 20);
                    tell(i, "seed(" + v + ")", program.seed(v), model.seed(v));
                    break;
                case 3:
                    v = around(-1, 2);
                    tell(i, "keep(" + v + ")", program.keep(v), model.keep(v));
                    break;
                case 4:
                    v = around(-1, 2);
                    tell(i, "goBack(" + v + ")", program.goBack(v), model.goBack(v));
                    break;
                default:
                    v = draws.nextInt(6) == 0 ? around(0, 9) : model.way(0, p);
                    tell(i, "write(" + p + ", " + v + ")", program.write(p, v), model.write(p, v));
                    tell(i, "told(7)", program.told(7), model.told(7));
                    break;
            }
        }

        private void tell(int i, String call, int got, int want) {
            check("run " + number + ", call " + i + ": " + call, got, want);
        }
    }
}

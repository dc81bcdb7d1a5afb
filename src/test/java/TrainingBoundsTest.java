/** The boundary cases of PARAMETERS and STEPS, and of promises 9 to 11, a test for each sentence. */
public final class TrainingBoundsTest {
    private static final int MIN = Integer.MIN_VALUE, MAX = Integer.MAX_VALUE;

    public static void main(String[] args) {
        Check.sentence("PARAMETERS are LEAVES so marked", TrainingBoundsTest::onlyMarkedLeaves);
        Check.sentence("all PARAMETERS' SLOPES are reckoned; then each CELL becomes", TrainingBoundsTest::allAtOnce);
        Check.sentence("SLOPES are reckoned, in each STEP of what the LEAVES are then", TrainingBoundsTest::reckonedAnew);
        Check.sentence("0 of those on which it does not hang", TrainingBoundsTest::notHanging);
        Check.sentence("also later ones", TrainingBoundsTest::laterOnes);
        Check.sentence("v - RATE * slope", TrainingBoundsTest::roomOfTheStep);
        Check.sentence("ROUNDED to 1 / 4096: the nearest", TrainingBoundsTest::nearest);
        Check.sentence("of two the greater one", TrainingBoundsTest::ofTwoTheGreater);
        Check.sentence("ROUNDED, what has no room being WILD", TrainingBoundsTest::roundedWithoutRoom);
        Check.sentence("(WILD stays so)", TrainingBoundsTest::wildStays);
        Check.sentence("A LEAF is a PARAMETER (on), or not: 1 if it was, else 0", TrainingBoundsTest::marks);
        Check.sentence("parameter: BAD", TrainingBoundsTest::wrongMarks);
        Check.sentence("RATE is p / q (q above 0", TrainingBoundsTest::rateAboveNone);
        Check.sentence("WILD when it has no room)", TrainingBoundsTest::wildRate);
        Check.sentence("from now on", TrainingBoundsTest::fromNowOn);
        Check.sentence("So many STEPS (0 .. 20)", TrainingBoundsTest::steps);
        Check.sentence("how many CELLS of PARAMETERS are WILD then", TrainingBoundsTest::wildCells);
        Check.sentence("train: BAD", TrainingBoundsTest::wrongTrainings);
        Check.sentence("TURN: it has SIDES", TrainingBoundsTest::sides);
        Check.end();
    }

    /** One PARAMETER of one cell: its own slope is 1. */
    private static PlainLearner single() {
        PlainLearner x = new PlainLearner();
        x.leaf(0, 0, 0, 0);
        x.parameter(0, true);
        return x;
    }

    private static void onlyMarkedLeaves() {
        PlainLearner x = single();
        x.leaf(0, 0, 0, 0);
        x.tell(0, 0, 1, 3);
        x.tell(1, 0, 1, 3);
        int sum = x.act(0, 0, 1);
        x.rate(1, 1);
        Check.due("train(2, 1)", x.train(sum, 1), 0);
        Check.value(x, 0, 0, -2731, 4096);
        Check.value(x, 1, 0, 1, 3);
        x.parameter(0, false);
        x.parameter(1, true);
        Check.due("train(2, 1)", x.train(sum, 1), 0);
        Check.value(x, 0, 0, -2731, 4096);
        Check.value(x, 1, 0, -2731, 4096);
        x.parameter(1, false);
        Check.due("train(2, 20)", x.train(sum, 20), 0);
        Check.value(x, 1, 0, -2731, 4096);
    }

    private static void allAtOnce() {
        PlainLearner x = single();
        x.leaf(0, 0, 0, 0);
        x.parameter(1, true);
        x.tell(0, 0, 2, 1);
        x.tell(1, 0, 3, 1);
        int times = x.act(2, 0, 1);
        x.rate(1, 1);
        x.train(times, 1);
        Check.value(x, 0, 0, -1, 1);
        Check.value(x, 1, 0, 1, 1);
        x.train(times, 1);
        Check.value(x, 0, 0, -2, 1);
        Check.value(x, 1, 0, 2, 1);
    }

    /** The slope of (w * w) * (w * w) hangs on an act's value: 4 at 1, then 1 / 2 at 1 / 2. */
    private static void reckonedAnew() {
        for (int asked = 0; asked < 2; asked++) {
            PlainLearner x = single();
            x.tell(0, 0, 1, 1);
            int power = x.act(13, x.act(13, 0, 0), 0);
            if (asked == 1) {
                Check.value(x, power, 0, 1, 1);
            }
            x.rate(1, 8);
            Check.due("train(2, 2)", x.train(power, 2), 0);
            Check.value(x, 0, 0, 7, 16);
            // 7 / 16 - 4 / 8 * (7 / 16)^3 = 7 / 16 - 343 / 8192, which is 1620.5 / 4096.
            Check.due("train(2, 1)", x.train(power, 1), 0);
            Check.value(x, 0, 0, 1621, 4096);
        }
    }

    private static void notHanging() {
        PlainLearner x = single();
        x.leaf(0, 0, 0, 0);
        x.tell(0, 0, 5, 1);
        int other = x.act(13, 1, 0);
        Check.due("train(2, 20)", x.train(other, 20), 0);
        Check.value(x, 0, 0, 5, 1);
        // v - RATE * 0 is ROUNDED as well.
        x.tell(0, 0, 1, 3);
        Check.due("train(2, 1)", x.train(other, 1), 0);
        Check.value(x, 0, 0, 1365, 4096);
    }

    private static void laterOnes() {
        PlainLearner x = new PlainLearner();
        x.leaf(0, 0, 0, 0);
        x.leaf(1, 2, 0, 0);
        x.parameter(1, true);
        Check.tell(x, 1, 4, -4);
        // A node behind that hangs on both is not the one that is trained.
        x.act(2, 0, 1);
        Check.due("train(0, 20)", x.train(0, 20), 0);
        Check.value(x, 1, 0, 4, 1);
        Check.value(x, 1, 1, -4, 1);
        x.tell(1, 1, 2, 3);
        Check.due("train(0, 1)", x.train(0, 1), 0);
        Check.value(x, 1, 1, 2731, 4096);
    }

    private static void roomOfTheStep() {
        PlainLearner x = single();
        x.rate(-1, 1);
        x.tell(0, 0, MAX - 1, 1);
        Check.due("train: MAX", x.train(0, 1), 0);
        Check.value(x, 0, 0, MAX, 1);
        Check.due("train: MAX + 1", x.train(0, 1), 1);
        Check.value(x, 0, 0, 0, 0);
        x.rate(1, 1);
        x.tell(0, 0, -MAX + 1, 1);
        Check.due("train: - MAX", x.train(0, 1), 0);
        Check.value(x, 0, 0, -MAX, 1);
        Check.due("train: - MAX - 1", x.train(0, 1), 1);
        Check.value(x, 0, 0, 0, 0);
        // The difference is looked at ahead of the rounding.
        x.tell(0, 0, 1, 65537);
        x.rate(1, 32767);
        Check.due("train: Q 2147450879", x.train(0, 1), 0);
        x.tell(0, 0, 1, 65537);
        x.rate(1, 32768);
        Check.due("train: Q 2147516416", x.train(0, 1), 1);
        // So is RATE * slope.
        PlainLearner y = single();
        y.leaf(0, 0, 0, 0);
        y.tell(1, 0, 46341, 1);
        int times = y.act(2, 0, 1);
        y.rate(46341, 1);
        Check.due("train: 46341 * 46341", y.train(times, 1), 1);
        y.tell(0, 0, 0, 1);
        y.rate(46340, 1);
        Check.due("train: 46340 * 46341", y.train(times, 1), 0);
        Check.value(y, 0, 0, -46340L * 46341, 1);
    }

    /** RATE 0: a step does nothing but round. */
    private static void rounds(int p, int q, long wantP, long wantQ) {
        PlainLearner x = single();
        x.rate(0, 1);
        x.tell(0, 0, p, q);
        Check.due("train with " + p + " / " + q, x.train(0, 1), wantQ == 0 ? 1 : 0);
        Check.value(x, 0, 0, wantP, wantQ);
    }

    private static void nearest() {
        rounds(0, 1, 0, 1);
        rounds(1, 4096, 1, 4096);
        rounds(-1, 4096, -1, 4096);
        rounds(1, 8193, 0, 1);
        rounds(-1, 8193, 0, 1);
        rounds(1, 8191, 1, 4096);
        rounds(-1, 8191, -1, 4096);
        rounds(1, 3, 1365, 4096);
        rounds(-1, 3, -1365, 4096);
        rounds(2, 3, 2731, 4096);
        rounds(-2, 3, -2731, 4096);
        rounds(1, MAX, 0, 1);
        rounds(-1, MAX, 0, 1);
        rounds(MAX - 1, MAX, 1, 1);
        rounds(-MAX + 1, MAX, -1, 1);
        rounds(2, 4096, 1, 2048);
        rounds(MAX, 1, MAX, 1);
        rounds(-MAX, 1, -MAX, 1);
    }

    private static void ofTwoTheGreater() {
        rounds(1, 8192, 1, 4096);
        rounds(-1, 8192, 0, 1);
        rounds(3, 8192, 1, 2048);
        rounds(-3, 8192, -1, 4096);
        rounds(8191, 8192, 1, 1);
        rounds(-8191, 8192, -4095, 4096);
        rounds(-8193, 8192, -1, 1);
    }

    /** The greatest with Q 4096 is MAX / 4096; MAX / 4095 would become 2148008063 / 4096. */
    private static void roundedWithoutRoom() {
        rounds(MAX, 4096, MAX, 4096);
        rounds(-MAX, 4096, -MAX, 4096);
        rounds(MAX, 4095, 0, 0);
        rounds(-MAX, 4095, 0, 0);
        rounds(MAX, 3, 0, 0);
        rounds(MAX, 2, MAX, 2);
        rounds(-MAX, 2, -MAX, 2);
        rounds(MAX - 1, 4096, (MAX - 1) / 2, 2048);
        rounds(MAX, 4097, 2146959487, 4096);
    }

    private static void wildStays() {
        PlainLearner x = single();
        x.tell(0, 0, 1, 0);
        for (int steps : new int[] {0, 1, 20}) {
            Check.due("train(0, " + steps + ")", x.train(0, steps), 1);
            Check.value(x, 0, 0, 0, 0);
        }
        // Also where the slope is 0.
        x.leaf(0, 0, 0, 0);
        Check.due("train(1, 1)", x.train(1, 1), 1);
        Check.value(x, 0, 0, 0, 0);
        x.tell(0, 0, 1, 1);
        Check.due("train(1, 1) when it is told anew", x.train(1, 1), 0);
    }

    private static void marks() {
        PlainLearner x = new PlainLearner();
        x.leaf(0, 0, 0, 0);
        x.leaf(0, 0, 0, 0);
        Check.due("parameter(0, false)", x.parameter(0, false), 0);
        Check.due("parameter(0, true)", x.parameter(0, true), 0);
        Check.due("parameter(0, true)", x.parameter(0, true), 1);
        Check.due("parameter(1, true)", x.parameter(1, true), 0);
        Check.due("parameter(0, false)", x.parameter(0, false), 1);
        Check.due("parameter(0, false)", x.parameter(0, false), 0);
        Check.due("parameter(1, false)", x.parameter(1, false), 1);
    }

    private static void wrongMarks() {
        PlainLearner x = new PlainLearner();
        x.leaf(0, 0, 0, 0);
        x.act(10, 0, 0);
        for (int wrong : new int[] {MIN, -1, 1, 2, 50, MAX}) {
            Check.due("parameter(" + wrong + ", true)", x.parameter(wrong, true), -1);
            Check.due("parameter(" + wrong + ", false)", x.parameter(wrong, false), -1);
        }
        Check.due("count(6)", x.count(6), 0);
    }

    private static void rateAboveNone() {
        PlainLearner x = single();
        x.rate(3, 4);
        for (int q : new int[] {MIN, -4, -1, 0}) {
            for (int p : new int[] {MIN, -1, 0, 1, MAX}) {
                Check.due("rate(" + p + ", " + q + ")", x.rate(p, q), -1);
            }
        }
        x.train(0, 1);
        Check.value(x, 0, 0, -3, 4);
        Check.due("rate(-2, 1)", x.rate(-2, 1), 0);
        x.tell(0, 0, 0, 1);
        x.train(0, 1);
        Check.value(x, 0, 0, 2, 1);
        Check.due("rate(MAX, MAX)", x.rate(MAX, MAX), 0);
        x.train(0, 1);
        Check.value(x, 0, 0, 1, 1);
        Check.due("rate(0, MAX)", x.rate(0, MAX), 0);
        x.train(0, 1);
        Check.value(x, 0, 0, 1, 1);
    }

    private static void wildRate() {
        PlainLearner x = single();
        Check.due("rate(-MAX, 1)", x.rate(-MAX, 1), 0);
        Check.due("train(0, 1)", x.train(0, 1), 0);
        Check.value(x, 0, 0, MAX, 1);
        Check.due("rate(MIN, 2)", x.rate(MIN, 2), 0);
        x.tell(0, 0, 0, 1);
        Check.due("train(0, 1)", x.train(0, 1), 0);
        Check.value(x, 0, 0, 1 << 30, 1);
        for (int q : new int[] {1, 3, MAX}) {
            Check.due("rate(MIN, " + q + ")", x.rate(MIN, q), 0);
            x.tell(0, 0, 0, 1);
            Check.due("train(0, 0)", x.train(0, 0), 0);
            Check.due("train(0, 1)", x.train(0, 1), 1);
            Check.value(x, 0, 0, 0, 0);
        }
        // Times a slope of 0 as well.
        x.leaf(0, 0, 0, 0);
        x.tell(0, 0, 1, 1);
        Check.due("train(1, 1)", x.train(1, 1), 1);
        x.tell(0, 0, 1, 1);
        x.rate(1, 1);
        Check.due("train(1, 1)", x.train(1, 1), 0);
    }

    private static void fromNowOn() {
        PlainLearner x = single();
        x.rate(1, 2);
        x.train(0, 1);
        x.rate(1, 4);
        Check.value(x, 0, 0, -1, 2);
        x.train(0, 2);
        Check.value(x, 0, 0, -1, 1);
    }

    private static void steps() {
        PlainLearner x = single();
        x.rate(1, 1);
        for (int wrong : new int[] {MIN, -1, 21, 22, MAX}) {
            Check.due("train(0, " + wrong + ")", x.train(0, wrong), -1);
        }
        Check.value(x, 0, 0, 0, 1);
        Check.due("train(0, 20)", x.train(0, 20), 0);
        Check.value(x, 0, 0, -20, 1);
        Check.due("train(0, 1)", x.train(0, 1), 0);
        Check.value(x, 0, 0, -21, 1);
        // No step rounds nothing.
        x.tell(0, 0, 1, 3);
        Check.due("train(0, 0)", x.train(0, 0), 0);
        Check.value(x, 0, 0, 1, 3);
    }

    private static void wildCells() {
        PlainLearner x = new PlainLearner();
        x.leaf(0, 0, 0, 0);
        Check.due("no PARAMETERS", x.train(0, 1), 0);
        x.leaf(1, 64, 0, 0);
        x.leaf(1, 3, 0, 0);
        for (int i = 0; i < 64; i++) {
            x.tell(1, i, 1, 0);
        }
        x.tell(2, 1, 1, 0);
        Check.due("none is a PARAMETER's", x.train(0, 1), 0);
        x.parameter(1, true);
        Check.due("64 of leaf 1", x.train(0, 1), 64);
        x.parameter(2, true);
        Check.due("and one of leaf 2", x.train(0, 0), 65);
        Check.due("and one of leaf 2", x.train(0, 20), 65);
        x.parameter(1, false);
        Check.due("one of leaf 2", x.train(0, 1), 1);
    }

    private static void wrongTrainings() {
        PlainLearner x = single();
        for (int wrong : new int[] {MIN, -1, 1, 50, MAX}) {
            Check.due("train(" + wrong + ", 0)", x.train(wrong, 0), -1);
            Check.due("train(" + wrong + ", 1)", x.train(wrong, 1), -1);
        }
        Check.value(x, 0, 0, 0, 1);
    }

    private static void sides() {
        PlainLearner x = new PlainLearner();
        x.leaf(1, 1, 0, 0);
        x.leaf(3, 1, 1, 1);
        x.parameter(0, true);
        for (int node = 0; node < 2; node++) {
            Check.due("train(" + node + ", 0)", x.train(node, 0), -4);
            Check.due("train(" + node + ", 1)", x.train(node, 1), -4);
            Check.due("train(" + node + ", 20)", x.train(node, 20), -4);
            // BAD is looked at first.
            Check.due("train(" + node + ", 21)", x.train(node, 21), -1);
            Check.due("train(" + node + ", -1)", x.train(node, -1), -1);
        }
        Check.value(x, 0, 0, 0, 1);
        int sum = x.act(5, 0, 0);
        Check.due("train(2, 1): its side is gone", x.train(sum, 1), 0);
        Check.value(x, 0, 0, -205, 2048);
    }
}

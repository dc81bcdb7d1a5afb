/** Promises 9 to 11: parameters, rate, training. */
public final class TrainingTest {
    private static final int MIN = Integer.MIN_VALUE, MAX = Integer.MAX_VALUE;

    public static void main(String[] args) {
        parameters();
        rates();
        wrongTrainings();
        stepsDownASquare();
        rounding();
        unreachedAreRoundedToo();
        noSteps();
        togetherNotOneByOne();
        wildCells();
        wildRate();
        roomOfTheStep();
        roundedWithoutRoom();
        Check.end();
    }

    private static void parameters() {
        PlainLearner x = new PlainLearner();
        x.leaf(0, 0, 0, 0);
        x.act(10, 0, 0);
        Check.due("parameter(0, true)", x.parameter(0, true), 0);
        Check.due("parameter(0, true)", x.parameter(0, true), 1);
        Check.due("parameter(0, false)", x.parameter(0, false), 1);
        Check.due("parameter(0, false)", x.parameter(0, false), 0);
        int[] wrong = {1, 2, -1, MIN, MAX};
        for (int w : wrong) {
            Check.due("parameter(" + w + ", true)", x.parameter(w, true), -1);
            Check.due("parameter(" + w + ", false)", x.parameter(w, false), -1);
        }
        Check.due("count(6)", x.count(6), 0);
    }

    /** A parameter of value 0 that is trained itself becomes - RATE. */
    private static PlainLearner single() {
        PlainLearner x = new PlainLearner();
        x.leaf(0, 0, 0, 0);
        x.parameter(0, true);
        return x;
    }

    private static void rates() {
        PlainLearner x = single();
        Check.due("rate(6, 8)", x.rate(6, 8), 0);
        Check.due("rate(1, 0)", x.rate(1, 0), -1);
        Check.due("rate(1, -1)", x.rate(1, -1), -1);
        Check.due("rate(1, MIN)", x.rate(1, MIN), -1);
        Check.due("train(0, 1)", x.train(0, 1), 0);
        Check.value(x, 0, 0, -3, 4);
        Check.due("rate(-1, 4)", x.rate(-1, 4), 0);
        Check.due("train(0, 2)", x.train(0, 2), 0);
        Check.value(x, 0, 0, -1, 4);
        Check.due("rate(0, 5)", x.rate(0, 5), 0);
        x.train(0, 1);
        Check.value(x, 0, 0, -1, 4);
        Check.due("rate(MIN, 2)", x.rate(MIN, 2), 0);
        x.tell(0, 0, 0, 1);
        Check.due("train(0, 1)", x.train(0, 1), 0);
        Check.value(x, 0, 0, 1 << 30, 1);
        Check.due("rate(MIN, 3)", x.rate(MIN, 3), 0);
        Check.due("train(0, 1)", x.train(0, 1), 1);
    }

    private static void wrongTrainings() {
        PlainLearner x = new PlainLearner();
        x.leaf(0, 0, 0, 0);
        x.leaf(1, 1, 0, 0);
        x.parameter(0, true);
        x.tell(0, 0, 1, 3);
        int[][] wrong = {{-1, 1}, {2, 1}, {0, -1}, {0, 21}, {1, 21}, {MIN, 1}, {MAX, 1}, {0, MIN}, {0, MAX}};
        for (int[] w : wrong) {
            Check.due("train(" + w[0] + ", " + w[1] + ")", x.train(w[0], w[1]), -1);
        }
        Check.due("train(1, 1)", x.train(1, 1), -4);
        Check.due("train(1, 0)", x.train(1, 0), -4);
        Check.value(x, 0, 0, 1, 3);
        Check.due("train(0, 20)", x.train(0, 20), 0);
    }

    private static void stepsDownASquare() {
        PlainLearner x = single();
        x.tell(0, 0, 1, 1);
        x.act(13, 0, 0);
        x.rate(1, 4);
        Check.due("train(1, 1)", x.train(1, 1), 0);
        Check.value(x, 0, 0, 1, 2);
        Check.due("train(1, 3)", x.train(1, 3), 0);
        Check.value(x, 0, 0, 1, 16);
        Check.value(x, 1, 0, 1, 256);
        // - 1 / 8192 lies between two: the greater one is taken.
        Check.due("train(1, 20)", x.train(1, 20), 0);
        Check.value(x, 0, 0, 1, 4096);
    }

    private static void rounding() {
        PlainLearner x = single();
        x.rate(0, 1);
        int[][] told = {{1, 8192}, {-1, 8192}, {3, 8192}, {-3, 8192}, {1, 8193}, {-1, 8193}, {1, 8191}, {-1, 8191},
            {1, 3}, {-1, 3}, {4095, 4096}, {MAX, 1}, {-MAX, 1}, {1, MAX}, {-1, MAX}};
        int[][] want = {{1, 4096}, {0, 1}, {1, 2048}, {-1, 4096}, {0, 1}, {0, 1}, {1, 4096}, {-1, 4096},
            {1365, 4096}, {-1365, 4096}, {4095, 4096}, {MAX, 1}, {-MAX, 1}, {0, 1}, {0, 1}};
        for (int k = 0; k < told.length; k++) {
            x.tell(0, 0, told[k][0], told[k][1]);
            Check.due("train(0, 1)", x.train(0, 1), 0);
            Check.value(x, 0, 0, want[k][0], want[k][1]);
        }
    }

    private static void unreachedAreRoundedToo() {
        PlainLearner x = new PlainLearner();
        x.leaf(0, 0, 0, 0);
        x.leaf(0, 0, 0, 0);
        x.leaf(0, 0, 0, 0);
        for (int k = 0; k < 3; k++) {
            x.tell(k, 0, 1, 3);
        }
        x.parameter(0, true);
        x.parameter(2, true);
        Check.due("train(1, 1)", x.train(1, 1), 0);
        Check.value(x, 0, 0, 1365, 4096);
        Check.value(x, 1, 0, 1, 3);
        Check.value(x, 2, 0, 1365, 4096);
    }

    private static void noSteps() {
        PlainLearner x = single();
        x.tell(0, 0, 1, 3);
        Check.due("train(0, 0)", x.train(0, 0), 0);
        Check.value(x, 0, 0, 1, 3);
        x.leaf(1, 3, 0, 0);
        x.tell(1, 0, 1, 0);
        x.tell(1, 2, 1, 0);
        Check.due("train(0, 0)", x.train(0, 0), 0);
        x.parameter(1, true);
        Check.due("train(0, 0)", x.train(0, 0), 2);
    }

    private static void togetherNotOneByOne() {
        PlainLearner x = new PlainLearner();
        x.leaf(0, 0, 0, 0);
        x.leaf(0, 0, 0, 0);
        x.tell(0, 0, 2, 1);
        x.tell(1, 0, 3, 1);
        x.parameter(0, true);
        x.parameter(1, true);
        x.act(2, 0, 1);
        x.rate(1, 1);
        x.train(2, 1);
        Check.value(x, 0, 0, -1, 1);
        Check.value(x, 1, 0, 1, 1);
        x.train(2, 1);
        Check.value(x, 0, 0, -2, 1);
        Check.value(x, 1, 0, 2, 1);
    }

    private static void wildCells() {
        PlainLearner x = new PlainLearner();
        x.leaf(1, 3, 0, 0);
        x.tell(0, 0, 1, 0);
        x.tell(0, 1, 2, 1);
        x.tell(0, 2, 5, 1);
        x.parameter(0, true);
        int sum = x.act(15, 0, 0);
        x.rate(1, 1);
        Check.due("train(1, 1)", x.train(sum, 1), 1);
        Check.value(x, 0, 0, 0, 0);
        Check.value(x, 0, 1, 1, 1);
        Check.value(x, 0, 2, 4, 1);
        int flat = x.act(15, x.act(13, 0, 0), 0);
        Check.due("train(3, 1)", x.train(flat, 1), 1);
        Check.value(x, 0, 1, -1, 1);
        int pick = x.act(7, 0, 0);
        Check.due("train(4, 1)", x.train(pick, 1), 3);
    }

    private static void wildRate() {
        PlainLearner x = single();
        x.leaf(1, 2, 0, 0);
        x.leaf(0, 0, 0, 0);
        x.parameter(1, true);
        Check.due("rate(MIN, 1)", x.rate(MIN, 1), 0);
        // Also times 0: nothing of node 2 hangs on the parameters.
        Check.due("train(2, 0)", x.train(2, 0), 0);
        Check.due("train(2, 1)", x.train(2, 1), 3);
    }

    private static void roomOfTheStep() {
        PlainLearner x = single();
        x.rate(-1, 1);
        x.tell(0, 0, MAX, 1);
        Check.due("train(0, 1)", x.train(0, 1), 1);
        x.rate(1, 1);
        Check.due("train(0, 1)", x.train(0, 1), 1);
        x.tell(0, 0, MAX, 1);
        Check.due("train(0, 1)", x.train(0, 1), 0);
        Check.value(x, 0, 0, MAX - 1, 1);
        // v - RATE * slope has no room ahead of the rounding.
        x.rate(1, 65536);
        x.tell(0, 0, 1, 65537);
        Check.due("train(0, 1)", x.train(0, 1), 1);
    }

    private static void roundedWithoutRoom() {
        PlainLearner x = single();
        x.rate(0, 1);
        x.tell(0, 0, MAX, 3);
        Check.due("train(0, 1)", x.train(0, 1), 1);
        x.tell(0, 0, MAX, 2);
        Check.due("train(0, 1)", x.train(0, 1), 0);
        Check.value(x, 0, 0, MAX, 2);
        // 524287 and 4095 / 4096 is the last of its kind that has room.
        x.tell(0, 0, MAX, 4096);
        Check.due("train(0, 1)", x.train(0, 1), 0);
        Check.value(x, 0, 0, MAX, 4096);
        x.tell(0, 0, MAX, 4095);
        Check.due("train(0, 1)", x.train(0, 1), 1);
    }
}

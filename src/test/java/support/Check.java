/** Counts answers and prints each that is not the one that is due. */
final class Check {
    static final long BAD_FRACTION = -1099511627776L;
    private static int wrong = 0;
    private static int looked = 0;
    private static String sentence = "";

    private Check() {
    }

    static void due(String call, long got, long want) {
        looked++;
        if (got != want) {
            wrong++;
            System.out.println(sentence + call + " answered " + got + ", due is " + want);
        }
    }

    /** The test of one sentence of the document, whose words are printed ahead of what is not as due. */
    static void sentence(String words, Runnable test) {
        sentence = "\"" + words + "\": ";
        int before = looked;
        test.run();
        if (looked == before) {
            wrong++;
            System.out.println(sentence + "nothing was looked at");
        }
        sentence = "";
    }

    /** A cell of a node. */
    static void value(PlainLearner x, int node, int i, long p, long q) {
        due("value(" + node + ", " + i + ", 0)", x.value(node, i, 0), p);
        due("value(" + node + ", " + i + ", 1)", x.value(node, i, 1), q);
    }

    static void slope(PlainLearner x, int node, int by, int i, long p, long q) {
        due("slope(" + node + ", " + by + ", " + i + ", 0)", x.slope(node, by, i, 0), p);
        due("slope(" + node + ", " + by + ", " + i + ", 1)", x.slope(node, by, i, 1), q);
    }

    static void score(PlainLearner x, int kind, long p, long q) {
        due("score(" + kind + ", 0)", x.score(kind, 0), p);
        due("score(" + kind + ", 1)", x.score(kind, 1), q);
    }

    static void share(PlainLearner x, int player, long p, long q) {
        due("share(" + player + ", 0)", x.share(player, 0), p);
        due("share(" + player + ", 1)", x.share(player, 1), q);
    }

    static void cost(PlainLearner x, int column, int v, long p, long q) {
        due("cost(" + column + ", " + v + ", 0)", x.cost(column, v, 0), p);
        due("cost(" + column + ", " + v + ", 1)", x.cost(column, v, 1), q);
    }

    /** The sides of a node, as node() tells them. */
    static void sides(PlainLearner x, int node, int... sides) {
        due("node(" + node + ", 0)", x.node(node, 0), sides.length);
        int cells = 1;
        for (int k = 0; k < 3; k++) {
            due("node(" + node + ", " + (k + 1) + ")", x.node(node, k + 1), k < sides.length ? sides[k] : 0);
            cells *= k < sides.length ? sides[k] : 1;
        }
        due("node(" + node + ", 4)", x.node(node, 4), cells);
    }

    /** Tells the cells of a leaf whole numbers, from the first on. */
    static void tell(PlainLearner x, int leaf, int... numbers) {
        for (int i = 0; i < numbers.length; i++) {
            due("tell(" + leaf + ", " + i + ", " + numbers[i] + ", 1)", x.tell(leaf, i, numbers[i], 1), 0);
        }
    }

    /** Makes a leaf of one side that holds whole numbers. */
    static int row(PlainLearner x, int... numbers) {
        int leaf = x.leaf(1, numbers.length, 0, 0);
        tell(x, leaf, numbers);
        return leaf;
    }

    static long bytes(String letters) {
        long bytes = 0;
        for (int i = letters.length() - 1; i >= 0; i--) {
            bytes = bytes << 8 | letters.charAt(i);
        }
        return bytes;
    }

    /** Feeds a text of any length in parts of eight. */
    static void feed(PlainLearner x, String letters) {
        for (int i = 0; i < letters.length(); i += 8) {
            String part = letters.substring(i, Math.min(letters.length(), i + 8));
            int before = x.count(4);
            due("feed(" + part + ")", x.feed(bytes(part), part.length()), before + part.length());
        }
    }

    static void text(PlainLearner x, int... tokens) {
        due("count(4)", x.count(4), tokens.length);
        for (int i = 0; i < tokens.length; i++) {
            due("token(" + i + ")", x.token(i), tokens[i]);
        }
        due("token(" + tokens.length + ")", x.token(tokens.length), PlainLearner.NONE);
    }

    static void end() {
        System.out.println(looked + " answers, " + wrong + " not as due");
        if (wrong != 0 || looked == 0) {
            System.exit(1);
        }
    }
}

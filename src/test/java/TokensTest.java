/** Promises 23 to 28: the text, merges, encoding. */
public final class TokensTest {
    private static final int MIN = Integer.MIN_VALUE, MAX = Integer.MAX_VALUE;

    public static void main(String[] args) {
        feeding();
        wrongFeeds();
        fullText();
        fullCountsTokens();
        merging();
        overlapsDoNotCount();
        lesserPairOfSeveral();
        learnedAnewWhenFedAgain();
        noPairTwice();
        fullOfMerges();
        wrongMerges();
        encoding();
        emptying();
        wrongTokens();
        Check.end();
    }

    private static void feeding() {
        PlainLearner x = new PlainLearner();
        Check.due("feed(abz, 3)", x.feed(Check.bytes("abz"), 3), 3);
        Check.due("feed(hgfedcba, 8)", x.feed(Check.bytes("hgfedcba"), 8), 11);
        Check.text(x, 0, 1, 25, 7, 6, 5, 4, 3, 2, 1, 0);
        // What stands above the n lowest bytes does not count.
        Check.due("feed(-256 | c, 1)", x.feed(-256L | 'c', 1), 12);
        Check.due("token(11)", x.token(11), 2);
    }

    private static void wrongFeeds() {
        PlainLearner x = new PlainLearner();
        int[] wrong = {0, -1, 9, MIN, MAX};
        for (int w : wrong) {
            Check.due("feed(aaaaaaaa, " + w + ")", x.feed(Check.bytes("aaaaaaaa"), w), -1);
        }
        Check.due("feed(abA, 3)", x.feed(Check.bytes("abA"), 3), -1);
        Check.due("feed(`, 1)", x.feed('a' - 1, 1), -1);
        Check.due("feed({, 1)", x.feed('z' + 1, 1), -1);
        Check.due("feed(0, 1)", x.feed(0, 1), -1);
        Check.due("feed(-1, 8)", x.feed(-1L, 8), -1);
        Check.due("feed(MIN, 8)", x.feed(Long.MIN_VALUE, 8), -1);
        Check.due("feed(ab, 3)", x.feed(Check.bytes("ab"), 3), -1);
        Check.due("count(4)", x.count(4), 0);
    }

    private static void fullText() {
        PlainLearner x = new PlainLearner();
        Check.feed(x, "abcdefgh".repeat(24) + "abcdef");
        Check.due("feed(abc, 3)", x.feed(Check.bytes("abc"), 3), -3);
        Check.due("feed(abC, 3)", x.feed(Check.bytes("abC"), 3), -1);
        Check.due("count(4)", x.count(4), 198);
        Check.due("feed(ab, 2)", x.feed(Check.bytes("ab"), 2), 200);
        Check.due("feed(a, 1)", x.feed('a', 1), -3);
        Check.due("token(199)", x.token(199), 1);
        Check.due("token(200)", x.token(200), -2);
    }

    /** 200 is the bound of the tokens that feed() answers, however many letters they have. */
    private static void fullCountsTokens() {
        PlainLearner x = new PlainLearner();
        Check.feed(x, "ab".repeat(100));
        Check.due("merge()", x.merge(), 26);
        Check.due("feed(cdcdcdcd, 8)", x.feed(Check.bytes("cdcdcdcd"), 8), 108);
    }

    private static void merging() {
        PlainLearner x = new PlainLearner();
        Check.feed(x, "abcabcxab");
        Check.due("merge()", x.merge(), 26);
        Check.text(x, 26, 2, 26, 2, 23, 26);
        Check.due("merge()", x.merge(), 27);
        Check.text(x, 27, 27, 23, 26);
        Check.due("merge()", x.merge(), -2);
        int[][] want = {{0, 1, 2}, {26, 2, 3}};
        for (int i = 0; i < 2; i++) {
            for (int what = 0; what < 3; what++) {
                Check.due("merged(" + i + ", " + what + ")", x.merged(i, what), want[i][what]);
            }
        }
        Check.due("count(5)", x.count(5), 2);
    }

    private static void overlapsDoNotCount() {
        PlainLearner x = new PlainLearner();
        Check.feed(x, "aaa");
        Check.due("merge()", x.merge(), -2);
        Check.feed(x, "aa");
        Check.due("merge()", x.merge(), 26);
        Check.text(x, 26, 26, 0);
        // aaaa twice is four aa, and not six: bc stands five times.
        PlainLearner y = new PlainLearner();
        Check.feed(y, "aaaabcaaaabcbcbcbc");
        Check.due("merge()", y.merge(), 26);
        Check.due("merged(0, 0)", y.merged(0, 0), 1);
        // aaa four times is four aa: de, five times, goes ahead; with eight it would not.
        PlainLearner z = new PlainLearner();
        Check.feed(z, "aaadeaaadeaaadeaaadede");
        z.merge();
        Check.due("merged(0, 0)", z.merged(0, 0), 3);
        Check.due("merged(0, 1)", z.merged(0, 1), 4);
    }

    private static void lesserPairOfSeveral() {
        PlainLearner x = new PlainLearner();
        Check.feed(x, "zbyzbyxbzxbz");
        // zb, by, yz once, xb, bz: zb 2, by 2, xb 2, bz 2; the lesser first is b, then y.
        Check.due("merge()", x.merge(), 26);
        Check.due("merged(0, 0)", x.merged(0, 0), 1);
        Check.due("merged(0, 1)", x.merged(0, 1), 24);
        // Letters are less than tokens that were made.
        PlainLearner y = new PlainLearner();
        Check.feed(y, "abcabcd");
        Check.due("merge()", y.merge(), 26);
        Check.feed(y, "zyzy");
        Check.due("merge()", y.merge(), 27);
        Check.due("merged(1, 0)", y.merged(1, 0), 25);
        Check.due("merge()", y.merge(), 28);
        Check.due("merged(2, 0)", y.merged(2, 0), 26);
        Check.due("merged(2, 1)", y.merged(2, 1), 2);
    }

    private static void learnedAnewWhenFedAgain() {
        PlainLearner x = new PlainLearner();
        Check.feed(x, "abab");
        Check.due("merge()", x.merge(), 26);
        Check.feed(x, "abab");
        Check.text(x, 26, 26, 0, 1, 0, 1);
        Check.due("merge()", x.merge(), 27);
        Check.due("merged(1, 0)", x.merged(1, 0), 0);
        Check.due("merged(1, 1)", x.merged(1, 1), 1);
        Check.text(x, 26, 26, 27, 27);
    }

    private static void noPairTwice() {
        PlainLearner x = new PlainLearner();
        Check.due("merge()", x.merge(), -2);
        Check.feed(x, "a");
        Check.due("merge()", x.merge(), -2);
        Check.feed(x, "bcdefgh");
        Check.due("merge()", x.merge(), -2);
        Check.due("count(5)", x.count(5), 0);
        Check.due("count(4)", x.count(4), 8);
        // What stood twice in an earlier text is not counted on.
        Check.feed(x, "ab");
        Check.due("merge()", x.merge(), 26);
        x.empty();
        Check.feed(x, "abc");
        Check.due("merge()", x.merge(), -2);
    }

    private static void fullOfMerges() {
        PlainLearner x = new PlainLearner();
        for (int k = 0; k < 60; k++) {
            x.empty();
            Check.feed(x, "abab");
            Check.due("merge()", x.merge(), 26 + k);
        }
        Check.due("merge(): no pair", x.merge(), -2);
        Check.feed(x, "xyxy");
        Check.due("merge(): 60 there", x.merge(), -3);
        Check.text(x, 85, 85, 23, 24, 23, 24);
        Check.due("merged(59, 2)", x.merged(59, 2), 2);
        Check.due("merged(60, 2)", x.merged(60, 2), -1);
        Check.due("encode()", x.encode(), 6);
        x.empty();
        Check.feed(x, "abab");
        Check.due("encode()", x.encode(), 2);
        Check.text(x, 26, 26);
    }

    private static void wrongMerges() {
        PlainLearner x = new PlainLearner();
        Check.due("merged(0, 0)", x.merged(0, 0), -1);
        Check.feed(x, "abab");
        x.merge();
        int[][] wrong = {{-1, 0}, {1, 0}, {0, -1}, {0, 3}, {MIN, 0}, {MAX, 0}, {0, MIN}, {0, MAX}};
        for (int[] w : wrong) {
            Check.due("merged(" + w[0] + ", " + w[1] + ")", x.merged(w[0], w[1]), -1);
        }
    }

    private static void encoding() {
        PlainLearner x = new PlainLearner();
        Check.due("encode()", x.encode(), 0);
        Check.feed(x, "aabaabaab");
        // aa 3, ab 3: aa is the lesser. Then (26, b) 3, and 27 twice over.
        Check.due("merge()", x.merge(), 26);
        Check.due("merge()", x.merge(), 27);
        Check.text(x, 27, 27, 27);
        Check.due("merge()", x.merge(), -2);
        x.empty();
        Check.feed(x, "aaabbaab");
        Check.due("encode()", x.encode(), 5);
        Check.text(x, 26, 0, 1, 1, 27);
        Check.due("encode() again", x.encode(), 5);
        Check.feed(x, "aabb");
        Check.due("encode()", x.encode(), 7);
        Check.text(x, 26, 0, 1, 1, 27, 27, 1);
    }

    private static void emptying() {
        PlainLearner x = new PlainLearner();
        Check.due("empty()", x.empty(), 0);
        Check.feed(x, "abab");
        x.merge();
        Check.due("empty()", x.empty(), 2);
        Check.due("count(4)", x.count(4), 0);
        Check.due("count(5)", x.count(5), 1);
        Check.due("token(0)", x.token(0), -2);
    }

    private static void wrongTokens() {
        PlainLearner x = new PlainLearner();
        Check.feed(x, "abc");
        int[] wrong = {-1, 3, MIN, MAX};
        for (int w : wrong) {
            Check.due("token(" + w + ")", x.token(w), -2);
        }
    }
}

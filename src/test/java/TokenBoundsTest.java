/** The boundary cases of "7 TOKENS" and of promises 23 to 28, a test for each sentence. */
public final class TokenBoundsTest {
    private static final int MIN = Integer.MIN_VALUE, MAX = Integer.MAX_VALUE;

    public static void main(String[] args) {
        Check.sentence("numbers 0 .. 25 are letters; a .. z", TokenBoundsTest::letters);
        Check.sentence("others are made of two before", TokenBoundsTest::madeOfTwoBefore);
        Check.sentence("A TEXT of up to 200; FULL: above 200", TokenBoundsTest::twoHundred);
        Check.sentence("how many tokens it has .. FULL: above 200 (tokens)", TokenBoundsTest::fullCountsTokens);
        Check.sentence("of all pairs of neighbours", TokenBoundsTest::neighbours);
        Check.sentence("those that overlap one before of the same pair not", TokenBoundsTest::overlaps);
        Check.sentence("that which stands most often", TokenBoundsTest::mostOften);
        Check.sentence("twice at least; NONE: no pair stands twice", TokenBoundsTest::twiceAtLeast);
        Check.sentence("of several the lesser first", TokenBoundsTest::lesserFirst);
        Check.sentence("then the lesser second token", TokenBoundsTest::lesserSecond);
        Check.sentence("becomes a new token, everywhere from the left", TokenBoundsTest::everywhere);
        Check.sentence("Up to 60 MERGES", TokenBoundsTest::sixty);
        Check.sentence("NONE; else FULL: 60 MERGES", TokenBoundsTest::noneAheadOfFull);
        Check.sentence("ENCODED by doing them in order", TokenBoundsTest::encodedInOrder);
        Check.sentence("The n lowest bytes of a long (1 .. 8", TokenBoundsTest::oneToEight);
        Check.sentence("the lowest first", TokenBoundsTest::lowestFirst);
        Check.sentence("the n lowest bytes (those above do not count)", TokenBoundsTest::bytesAbove);
        Check.sentence("come behind the TEXT", TokenBoundsTest::behindTheText);
        Check.sentence("(MERGES are not done to what comes.)", TokenBoundsTest::notMerged);
        Check.sentence("The TEXT is empty: how many tokens it had", TokenBoundsTest::emptying);
        Check.sentence("merged: first (0), second (1), how many letters (2)", TokenBoundsTest::mergedLetters);
        Check.sentence("merged: BAD", TokenBoundsTest::wrongMerged);
        Check.sentence("encode: how many tokens it has then", TokenBoundsTest::encodeEdges);
        Check.sentence("Token i of the TEXT; NONE", TokenBoundsTest::noToken);
        Check.end();
    }

    private static PlainLearner fed(String letters) {
        PlainLearner x = new PlainLearner();
        Check.feed(x, letters);
        return x;
    }

    private static void letters() {
        for (int n = 1; n <= 8; n++) {
            for (int at = 0; at < n; at++) {
                PlainLearner x = new PlainLearner();
                for (long wrong : new long[] {0, 1, 'A', 'Z', 'a' - 1, 'z' + 1, 127, 128, 'a' + 128, 255}) {
                    long bytes = Check.bytes("mmmmmmmm") & ~(255L << 8 * at) | wrong << 8 * at;
                    Check.due("feed(byte " + wrong + " at " + at + ", " + n + ")", x.feed(bytes, n), -1);
                }
                Check.due("count(4)", x.count(4), 0);
                for (int letter : new int[] {0, 25}) {
                    x.empty();
                    long bytes = Check.bytes("mmmmmmmm") & ~(255L << 8 * at) | (long) ('a' + letter) << 8 * at;
                    Check.due("feed", x.feed(bytes, n), n);
                    Check.due("token(" + at + ")", x.token(at), letter);
                }
            }
        }
    }

    private static void madeOfTwoBefore() {
        PlainLearner x = fed("zzzz");
        Check.due("the first new token", x.merge(), 26);
        Check.due("merged(0, 0)", x.merged(0, 0), 25);
        Check.due("merged(0, 1)", x.merged(0, 1), 25);
        x.empty();
        Check.feed(x, "zzzzzzzz");
        x.encode();
        Check.due("the second one", x.merge(), 27);
        Check.due("merged(1, 0)", x.merged(1, 0), 26);
        Check.due("merged(1, 1)", x.merged(1, 1), 26);
    }

    private static void twoHundred() {
        PlainLearner x = new PlainLearner();
        Full.text(x, 192);
        Check.due("feed of 8: 200", x.feed(Check.bytes("zzzzzzzz"), 8), 200);
        for (int n = 1; n <= 8; n++) {
            Check.due("feed of " + n + " more", x.feed(Check.bytes("aaaaaaaa"), n), -3);
        }
        Check.due("count(4)", x.count(4), 200);
        Check.due("token(199)", x.token(199), 25);
        for (int left = 1; left <= 7; left++) {
            PlainLearner y = new PlainLearner();
            Full.text(y, 200 - left);
            Check.due("feed of one too many", y.feed(Check.bytes("zzzzzzzz"), left + 1), -3);
            Check.due("count(4)", y.count(4), 200 - left);
            Check.due("token behind", y.token(200 - left), -2);
            Check.due("feed of what has room", y.feed(Check.bytes("zzzzzzzz"), left), 200);
            Check.due("feed of one more", y.feed('a', 1), -3);
        }
    }

    /** What was merged has given up room: the bound is on the tokens that feed() answers. */
    private static void fullCountsTokens() {
        PlainLearner x = fed("ab".repeat(100));
        Check.due("feed", x.feed('c', 1), -3);
        Check.due("merge()", x.merge(), 26);
        Check.due("count(4)", x.count(4), 100);
        for (int k = 1; k <= 12; k++) {
            Check.due("feed", x.feed(Check.bytes("cdcdcdcd"), 8), 100 + 8 * k);
        }
        Check.due("feed of 5: 201", x.feed(Check.bytes("cdcdcdcd"), 5), -3);
        Check.due("feed of 4: 200", x.feed(Check.bytes("cdcdcdcd"), 4), 200);
        Check.due("feed of 1: 201", x.feed('c', 1), -3);
        Check.due("token(199)", x.token(199), 3);
    }

    private static void neighbours() {
        // Those that stand apart, or the last and the first, are no neighbours.
        PlainLearner x = fed("abcacb");
        Check.due("merge() of abcacb", x.merge(), -2);
        PlainLearner y = fed("abca");
        Check.due("merge() of abca", y.merge(), -2);
        PlainLearner z = fed("bcab");
        Check.due("merge() of bcab", z.merge(), -2);
        // ab and ba are two pairs.
        PlainLearner w = fed("abba");
        Check.due("merge() of abba", w.merge(), -2);
        // The very last pair counts.
        PlainLearner v = fed("abcab");
        Check.due("merge() of abcab", v.merge(), 26);
    }

    private static void overlaps() {
        int[] counts = {0, 0, 1, 1, 2, 2, 3, 3, 4};
        for (int n = 1; n <= 8; n++) {
            PlainLearner x = fed("a".repeat(n));
            Check.due("merge() of a * " + n, x.merge(), counts[n] < 2 ? -2 : 26);
            Check.due("count(4)", x.count(4), counts[n] < 2 ? n : n - counts[n]);
        }
        // Of a run of a, as many pairs as are merged: against bc and de, that stand so often or once more.
        for (int n = 4; n <= 9; n++) {
            int pairs = n / 2;
            PlainLearner less = fed("a".repeat(n) + "xbc".repeat(pairs + 1));
            less.merge();
            Check.due("a * " + n + " against " + (pairs + 1) + " bc: first", less.merged(0, 0), 1);
            PlainLearner like = fed("a".repeat(n) + "xbc".repeat(pairs));
            like.merge();
            Check.due("a * " + n + " against " + pairs + " bc: first", like.merged(0, 0), 0);
            Check.due("second", like.merged(0, 1), 0);
        }
        // Runs that are apart count each from its own left: 1 + 1 of aaa and aaa.
        PlainLearner x = fed("aaabaaa");
        Check.due("merge() of aaabaaa", x.merge(), 26);
        Check.text(x, 26, 0, 1, 26, 0);
        // Pairs of different tokens overlap others, and count all the same.
        PlainLearner y = fed("ababa");
        y.merge();
        Check.text(y, 26, 26, 0);
    }

    private static void mostOften() {
        PlainLearner x = fed("abxabxcdxcdxcd");
        // ab 2, cd 3, dx 2: but xc 3 as well, of which cd is the lesser.
        Check.due("merge()", x.merge(), 26);
        Check.due("merged(0, 0)", x.merged(0, 0), 2);
        Check.due("merged(0, 1)", x.merged(0, 1), 3);
        PlainLearner y = fed("zy".repeat(100));
        // zy 100 times, yz 99 times.
        y.merge();
        Check.due("merged(0, 0)", y.merged(0, 0), 25);
        Check.due("count(4)", y.count(4), 100);
    }

    private static void twiceAtLeast() {
        String[] none = {"a", "z", "aa", "ab", "aaa", "aba", "abc", "abcdefghijklmnopqrstuvwxyz"};
        for (String text : none) {
            PlainLearner x = fed(text);
            Check.due("merge() of " + text, x.merge(), -2);
            Check.due("count(5)", x.count(5), 0);
            Check.due("count(4)", x.count(4), text.length());
        }
        PlainLearner y = new PlainLearner();
        Check.due("merge() of an empty TEXT", y.merge(), -2);
        for (String text : new String[] {"aaaa", "abab", "zyxzy"}) {
            Check.due("merge() of " + text, fed(text).merge(), 26);
        }
    }

    private static void lesserFirst() {
        PlainLearner x = fed("zaqzaqbzqbz");
        // za 2, aq 2, bz 2: a is the lesser.
        x.merge();
        Check.due("merged(0, 0)", x.merged(0, 0), 0);
        Check.due("merged(0, 1)", x.merged(0, 1), 16);
        // It is the first token that counts first, not the second.
        PlainLearner y = fed("bacbacb");
        // ba 2, ac 2, cb 2.
        y.merge();
        Check.due("merged(0, 0)", y.merged(0, 0), 0);
        Check.due("merged(0, 1)", y.merged(0, 1), 2);
        // Letters are less than tokens that were made.
        PlainLearner z = fed("ababab");
        Check.due("merge()", z.merge(), 26);
        Check.feed(z, "xzyzy");
        // 26 26 overlaps: once. zy is 2.
        Check.due("merge()", z.merge(), 27);
        Check.due("merged(1, 0)", z.merged(1, 0), 25);
        PlainLearner w = fed("abxabx");
        Check.due("merge()", w.merge(), 26);
        Check.feed(w, "zyzy");
        // 26 x and zy: z is the lesser.
        Check.due("merge()", w.merge(), 27);
        Check.due("merged(1, 0)", w.merged(1, 0), 25);
        Check.due("merge()", w.merge(), 28);
        Check.due("merged(2, 0)", w.merged(2, 0), 26);
    }

    private static void lesserSecond() {
        PlainLearner x = fed("mzqmbqmzrmb");
        // mz 2, mb 2.
        x.merge();
        Check.due("merged(0, 0)", x.merged(0, 0), 12);
        Check.due("merged(0, 1)", x.merged(0, 1), 1);
        // A made token is the greater second one.
        PlainLearner y = fed("abcabd");
        y.merge();
        Check.feed(y, "a");
        y.empty();
        Check.feed(y, "xabexabf");
        y.encode();
        Check.feed(y, "xzgxz");
        // x 26 twice, x z twice.
        Check.due("merge()", y.merge(), 27);
        Check.due("merged(1, 0)", y.merged(1, 0), 23);
        Check.due("merged(1, 1)", y.merged(1, 1), 25);
    }

    private static void everywhere() {
        PlainLearner x = fed("abcabcab");
        x.merge();
        Check.text(x, 26, 2, 26, 2, 26);
        PlainLearner y = fed("baaaaab");
        y.merge();
        Check.text(y, 1, 26, 26, 0, 1);
        PlainLearner z = fed("a".repeat(200));
        z.merge();
        Check.due("count(4)", z.count(4), 100);
        Check.due("token(99)", z.token(99), 26);
        PlainLearner w = fed("a".repeat(199));
        w.merge();
        Check.due("count(4)", w.count(4), 100);
        Check.due("token(98)", w.token(98), 26);
        Check.due("token(99)", w.token(99), 0);
    }

    private static void sixty() {
        PlainLearner x = new PlainLearner();
        for (int k = 0; k < 60; k++) {
            x.empty();
            x.feed(Check.bytes("abab"), 4);
            Check.due("merge() " + (k + 1), x.merge(), 26 + k);
        }
        Check.due("count(5)", x.count(5), 60);
        x.feed(Check.bytes("xyxy"), 4);
        Check.due("merge() 61", x.merge(), -3);
        Check.due("merge() 61", x.merge(), -3);
        Check.text(x, 85, 85, 23, 24, 23, 24);
        Check.due("count(5)", x.count(5), 60);
        Check.due("merged(59, 0)", x.merged(59, 0), 0);
        Check.due("merged(60, 0)", x.merged(60, 0), -1);
    }

    private static void noneAheadOfFull() {
        PlainLearner x = new PlainLearner();
        Full.merges(x, 60);
        Check.due("merge() of 85 85", x.merge(), -2);
        x.empty();
        Check.due("merge() of an empty TEXT", x.merge(), -2);
        Check.feed(x, "aaa");
        Check.due("merge() of aaa", x.merge(), -2);
        Check.feed(x, "a");
        Check.due("merge() of aaaa", x.merge(), -3);
    }

    private static void encodedInOrder() {
        // bc is learned first, then ab: of abc only bc is found.
        PlainLearner x = fed("bcbc");
        Check.due("merge()", x.merge(), 26);
        x.empty();
        Check.feed(x, "abab");
        Check.due("merge()", x.merge(), 27);
        x.empty();
        Check.feed(x, "abcab");
        Check.due("encode()", x.encode(), 3);
        Check.text(x, 0, 26, 27);
        // A merge of merged tokens is found when those ahead have been done.
        PlainLearner y = fed("abcdabcd");
        Check.due("ab", y.merge(), 26);
        Check.due("cd", y.merge(), 27);
        Check.due("26 27", y.merge(), 28);
        y.empty();
        Check.feed(y, "abcdxabcab");
        Check.due("encode()", y.encode(), 5);
        Check.text(y, 28, 23, 26, 2, 26);
        // Each is done once: a token of a later merge does not go back to an earlier one.
        PlainLearner z = fed("cdcd");
        Check.due("cd", z.merge(), 26);
        Check.feed(z, "a");
        z.empty();
        Check.feed(z, "aaaa");
        Check.due("aa", z.merge(), 27);
        Check.due("encode()", z.encode(), 2);
        Check.text(z, 27, 27);
    }

    private static void oneToEight() {
        PlainLearner x = new PlainLearner();
        for (int wrong : new int[] {MIN, -8, -1, 0, 9, 10, 64, MAX}) {
            Check.due("feed(abcdefgh, " + wrong + ")", x.feed(Check.bytes("abcdefgh"), wrong), -1);
        }
        Check.due("count(4)", x.count(4), 0);
        Check.due("feed(abcdefgh, 1)", x.feed(Check.bytes("abcdefgh"), 1), 1);
        Check.due("feed(abcdefgh, 8)", x.feed(Check.bytes("abcdefgh"), 8), 9);
        Check.text(x, 0, 0, 1, 2, 3, 4, 5, 6, 7);
    }

    private static void lowestFirst() {
        PlainLearner x = new PlainLearner();
        Check.due("feed(0x6261, 2)", x.feed(0x6261L, 2), 2);
        Check.due("feed(0x7a79787776757473, 8)", x.feed(0x7a79787776757473L, 8), 10);
        Check.text(x, 0, 1, 18, 19, 20, 21, 22, 23, 24, 25);
    }

    private static void bytesAbove() {
        for (int n = 1; n < 8; n++) {
            PlainLearner x = new PlainLearner();
            long bytes = Check.bytes("abcdefgh") & (1L << 8 * n) - 1 | -1L << 8 * n;
            Check.due("feed(" + bytes + ", " + n + ")", x.feed(bytes, n), n);
            Check.due("token(" + (n - 1) + ")", x.token(n - 1), n - 1);
            Check.due("feed of one more", x.feed(bytes, n + 1), -1);
        }
    }

    private static void behindTheText() {
        PlainLearner x = fed("zy");
        Check.due("feed", x.feed(Check.bytes("ab"), 2), 4);
        Check.text(x, 25, 24, 0, 1);
    }

    private static void notMerged() {
        PlainLearner x = fed("abab");
        x.merge();
        Check.feed(x, "abab");
        Check.text(x, 26, 26, 0, 1, 0, 1);
        // The pair is learned anew, as another token.
        Check.due("merge()", x.merge(), 27);
        Check.text(x, 26, 26, 27, 27);
    }

    private static void emptying() {
        PlainLearner x = new PlainLearner();
        Check.due("empty() of none", x.empty(), 0);
        Full.text(x, 200);
        Check.due("empty()", x.empty(), 200);
        Check.due("empty() again", x.empty(), 0);
        Check.due("count(4)", x.count(4), 0);
        Check.due("token(0)", x.token(0), -2);
        Full.text(x, 200);
        Check.due("count(4)", x.count(4), 200);
        x.empty();
        // Tokens, not letters, and the MERGES stay.
        Check.feed(x, "abab");
        x.merge();
        Check.due("empty()", x.empty(), 2);
        Check.due("count(5)", x.count(5), 1);
        Check.due("merged(0, 1)", x.merged(0, 1), 1);
        Check.due("encode() of none", x.encode(), 0);
    }

    private static void mergedLetters() {
        PlainLearner x = fed("a".repeat(200));
        for (int k = 0; k < 6; k++) {
            Check.due("merge()", x.merge(), 26 + k);
            Check.due("merged(" + k + ", 0)", x.merged(k, 0), k == 0 ? 0 : 25 + k);
            Check.due("merged(" + k + ", 1)", x.merged(k, 1), k == 0 ? 0 : 25 + k);
            Check.due("merged(" + k + ", 2)", x.merged(k, 2), 2 << k);
        }
        // 64 * 3 + 8 letters.
        Check.text(x, 31, 31, 31, 28);
        Check.due("merge()", x.merge(), -2);
        // Of unlike lengths.
        PlainLearner y = fed("abcabc");
        y.merge();
        y.merge();
        Check.due("merged(0, 2)", y.merged(0, 2), 2);
        Check.due("merged(1, 2)", y.merged(1, 2), 3);
    }

    private static void wrongMerged() {
        PlainLearner x = new PlainLearner();
        for (int what = 0; what <= 2; what++) {
            Check.due("merged(0, " + what + ") of none", x.merged(0, what), -1);
        }
        Check.feed(x, "abab");
        x.merge();
        for (int what = 0; what <= 2; what++) {
            for (int wrong : new int[] {MIN, -1, 1, 26, 60, MAX}) {
                Check.due("merged(" + wrong + ", " + what + ")", x.merged(wrong, what), -1);
            }
        }
        for (int wrong : new int[] {MIN, -1, 3, 4, MAX}) {
            Check.due("merged(0, " + wrong + ")", x.merged(0, wrong), -1);
        }
        Check.due("merged(0, 2)", x.merged(0, 2), 2);
    }

    private static void encodeEdges() {
        PlainLearner x = new PlainLearner();
        Check.due("encode() of none", x.encode(), 0);
        Full.text(x, 200);
        Check.due("encode() without MERGES", x.encode(), 200);
        Check.due("token(199)", x.token(199), 7);
        x.empty();
        Full.merges(x, 60);
        x.empty();
        Check.feed(x, "ab".repeat(100));
        Check.due("encode()", x.encode(), 100);
        Check.due("token(99)", x.token(99), 26);
        Check.due("encode() again", x.encode(), 100);
        Check.due("count(5)", x.count(5), 60);
        x.empty();
        Check.feed(x, "b");
        Check.due("encode() of one letter", x.encode(), 1);
        // A pair that stands once is merged as well.
        x.empty();
        Check.feed(x, "cab");
        Check.due("encode() of cab", x.encode(), 2);
        Check.text(x, 2, 26);
    }

    private static void noToken() {
        PlainLearner x = new PlainLearner();
        for (int i : new int[] {MIN, -1, 0, 1, 199, 200, MAX}) {
            Check.due("token(" + i + ") of none", x.token(i), -2);
        }
        Full.text(x, 200);
        for (int i : new int[] {MIN, -1, 200, 201, MAX}) {
            Check.due("token(" + i + ")", x.token(i), -2);
        }
        Check.due("token(0)", x.token(0), 0);
        Check.due("token(199)", x.token(199), 7);
        x.merge();
        // Behind the end, where letters stood before.
        Check.due("token(174)", x.token(174), 7);
        Check.due("token(175)", x.token(175), -2);
    }
}

/** Promises 18 to 25: word, mistake, odds, was, list, bits, ask, clocks. */
public final class WordsTest {
    private static final Check check = new Check("WordsTest");
    private static final long NO = ThroughATrumpet.NO;

    public static void main(String[] args) {
        word();
        mistake();
        odds();
        oddsOfLargeNumbers();
        was();
        list();
        listAtItsBounds();
        bits();
        ask();
        clocks();
        check.end();
    }

    private static void word() {
        ThroughATrumpet x = new ThroughATrumpet();
        int[][] bad = {{-1, 0}, {10000, 0}, {0, -1}, {0, 100}};
        for (int[] b : bad) {
            check.due("word, a number that isn't as told", x.word(b[0], b[1]), ThroughATrumpet.BAD);
        }
        for (int w = 0; w < 6; w++) {
            check.due("word " + w, x.word(w == 0 ? 9999 : 1111 * w, w == 0 ? 99 : w), w);
        }
        check.due("a seventh", x.word(0, 0), ThroughATrumpet.FULL);
        check.due("BAD ahead of FULL", x.word(0, 100), ThroughATrumpet.BAD);
        check.due("six", x.count(7), 6);
        check.due("FIGURES", x.taken(0, 6), 9999);
        check.due("FIGURES", x.taken(5, 6), 5555);
    }

    private static void mistake() {
        ThroughATrumpet x = new ThroughATrumpet();
        check.due("no WORDS", x.mistake(0, 0, 0), ThroughATrumpet.NONE);
        x.word(1, 1);
        x.word(2, 1);
        check.due("as itself", x.mistake(1, 1, 99), 10);
        check.due("it is 99", x.mistake(1, 1, 0), 99);
        check.due("as another", x.mistake(0, 1, 5), 0);
        check.due("said and heard aren't one", x.mistake(1, 0, 6), 0);
        check.due("it is 5", x.mistake(0, 1, 7), 5);
        check.due("mistake(0, 1, 100)", x.mistake(0, 1, 100), ThroughATrumpet.BAD);
        check.due("mistake(0, 1, -1)", x.mistake(0, 1, -1), ThroughATrumpet.BAD);
        check.due("mistake(2, 0, 0)", x.mistake(2, 0, 0), ThroughATrumpet.NONE);
        check.due("mistake(0, 2, 0)", x.mistake(0, 2, 0), ThroughATrumpet.NONE);
        check.due("mistake(-1, 0, 0)", x.mistake(-1, 0, 0), ThroughATrumpet.NONE);
        check.due("mistake(0, -1, 0)", x.mistake(0, -1, 0), ThroughATrumpet.NONE);
        check.due("NONE ahead of BAD", x.mistake(2, 0, 100), ThroughATrumpet.NONE);
        check.due("it is 7 still", x.mistake(0, 1, 7), 7);
    }

    private static void odds() {
        ThroughATrumpet x = new ThroughATrumpet();
        check.due("no WORDS", x.odds(0, 0, 0), NO);
        x.word(1, 6);
        x.word(2, 4);
        odds(x, 0, 0, 1, 1);
        odds(x, 0, 1, 0, 1);
        x.mistake(1, 0, 30);
        // 6 times 10 by 10, 4 times 30 by 40: 6 and 3
        odds(x, 0, 0, 2, 3);
        odds(x, 0, 1, 1, 3);
        odds(x, 1, 0, 0, 1);
        odds(x, 1, 1, 1, 1);
        x.mistake(0, 0, 0);
        x.mistake(1, 0, 0);
        odds(x, 0, 0, 0, 1);
        odds(x, 0, 1, 0, 1);
        int[][] bad = {{2, 0, 0}, {-1, 0, 0}, {0, 2, 0}, {0, -1, 0}, {0, 0, 2}, {0, 0, -1}};
        for (int[] b : bad) {
            check.due("odds, none such", x.odds(b[0], b[1], b[2]), NO);
        }
        ThroughATrumpet y = new ThroughATrumpet();
        y.word(1, 0);
        odds(y, 0, 0, 0, 1);
        y.word(1, 3);
        y.mistake(1, 0, 20);
        odds(y, 0, 0, 0, 1);
        odds(y, 0, 1, 1, 1);
        // all TAKEN of the first is 0, which counts as 1: it changes nothing for the other one
        ThroughATrumpet n = new ThroughATrumpet();
        n.word(1, 3);
        n.word(2, 5);
        n.mistake(0, 0, 0);
        odds(n, 1, 1, 1, 1);
        odds(n, 1, 0, 0, 1);
        odds(n, 0, 0, 0, 1);
        odds(n, 0, 1, 0, 1);
        check.due("the other one was said", n.was(1), 1);
        check.due("all is 0", n.was(0), -1);
        // all TAKEN of the first is 1: 3 times 1 by 1, 3 times 20 by 30
        ThroughATrumpet z = new ThroughATrumpet();
        z.word(1, 3);
        z.word(1, 3);
        z.mistake(0, 0, 1);
        z.mistake(1, 0, 20);
        odds(z, 0, 0, 3, 5);
        odds(z, 0, 1, 2, 5);
    }

    private static void odds(ThroughATrumpet x, int heard, int said, long above, long below) {
        check.due("odds above " + heard + " " + said, x.odds(heard, said, 0), above);
        check.due("odds below " + heard + " " + said, x.odds(heard, said, 1), below);
    }

    /** Six WORDS with TAKEN as high as can be: all such together is still a number of 64 bits. */
    private static void oddsOfLargeNumbers() {
        ThroughATrumpet x = new ThroughATrumpet();
        for (int w = 0; w < 6; w++) {
            x.word(w, 99 - w);
        }
        java.math.BigInteger[] all = new java.math.BigInteger[6];
        for (int said = 0; said < 6; said++) {
            int sum = 0;
            for (int heard = 0; heard < 6; heard++) {
                int v = heard == 0 ? 99 : 99 - (said * 7 + heard) % 3;
                x.mistake(said, heard, v);
                sum += v;
            }
            all[said] = java.math.BigInteger.valueOf(sum);
        }
        java.math.BigInteger together = java.math.BigInteger.ZERO;
        java.math.BigInteger[] each = new java.math.BigInteger[6];
        for (int said = 0; said < 6; said++) {
            each[said] = java.math.BigInteger.valueOf((99 - said) * 99);
            for (int w = 0; w < 6; w++) {
                if (w != said) {
                    each[said] = each[said].multiply(all[w]);
                }
            }
            together = together.add(each[said]);
        }
        for (int said = 0; said < 6; said++) {
            java.math.BigInteger divisor = each[said].gcd(together);
            odds(x, 0, said, each[said].divide(divisor).longValueExact(), together.divide(divisor).longValueExact());
        }
    }

    private static void was() {
        ThroughATrumpet x = new ThroughATrumpet();
        check.due("no WORDS", x.was(0), -5);
        x.word(1, 4);
        x.word(2, 4);
        x.word(3, 0);
        check.due("itself", x.was(1), 1);
        check.due("never said", x.was(2), -1);
        x.mistake(0, 1, 10);
        // 4 times 10 by 20 is less than 4 times 10 by 10
        check.due("itself yet", x.was(1), 1);
        x.mistake(1, 2, 10);
        check.due("of like ones the first", x.was(1), 0);
        check.due("what is taken for it", x.was(2), 1);
        check.due("was(3)", x.was(3), -5);
        check.due("was(-1)", x.was(-1), -5);
        ThroughATrumpet y = new ThroughATrumpet();
        y.word(1, 1);
        y.mistake(0, 0, 1);
        check.due("1 of 1 is enough", y.was(0), 0);
        y.mistake(0, 0, 0);
        check.due("0 of 0 isn't", y.was(0), -1);
        // six WORDS, all alike: the first; then the last one is more
        ThroughATrumpet z = new ThroughATrumpet();
        for (int w = 0; w < 6; w++) {
            z.word(w, 99);
        }
        for (int said = 0; said < 6; said++) {
            for (int heard = 0; heard < 6; heard++) {
                z.mistake(said, heard, 99);
            }
        }
        check.due("of six like ones the first", z.was(5), 0);
        z.mistake(5, 0, 98);
        check.due("a little more", z.was(5), 5);
        check.due("a little less", z.was(0), 0);
    }

    private static void list() {
        ThroughATrumpet x = new ThroughATrumpet();
        check.due("of no WORDS", x.list(0, 0), 0);
        check.due("list(1, 0)", x.list(1, 0), ThroughATrumpet.BAD);
        for (int w = 0; w < 6; w++) {
            x.word(w, 1);
        }
        check.due("of like ones the least as bits", x.list(3, 0), 7);
        x.mistake(0, 1, 5);
        x.mistake(1, 0, 6);
        x.mistake(2, 0, 1);
        check.due("without 1, 0", x.list(5, 0), 62);
        check.due("list(5, 1)", x.list(5, 1), 0);
        check.due("two, MUDDLED by both ways", x.list(6, 1), 12);
        x.mistake(3, 4, 1);
        x.mistake(5, 3, 1);
        x.mistake(5, 4, 1);
        x.mistake(1, 2, 1);
        check.due("three", x.list(3, 0), 1 + 4 + 8);
        check.due("three by how much", x.list(3, 1), 1);
        check.due("four", x.list(4, 0), 1 + 4 + 8 + 16);
        check.due("four by how much", x.list(4, 1), 2);
        check.due("five", x.list(5, 0), 63 - 2);
        check.due("five by how much", x.list(5, 1), 4);
        check.due("all", x.list(6, 0), 63);
        check.due("all by how much", x.list(6, 1), 16);
        check.due("none of six", x.list(0, 0), 0);
        check.due("none of six by how much", x.list(0, 1), 0);
        check.due("one alone, the least as bits", x.list(1, 0), 1);
        check.due("one alone is never MUDDLED, not by itself either", x.list(1, 1), 0);
        check.due("list(7, 0)", x.list(7, 0), ThroughATrumpet.BAD);
        check.due("list(-1, 0)", x.list(-1, 0), ThroughATrumpet.BAD);
        check.due("list(0, 2)", x.list(0, 2), ThroughATrumpet.BAD);
        check.due("list(0, -1)", x.list(0, -1), ThroughATrumpet.BAD);
    }

    /** TAKEN as high as can be, and how many WORDS there may be. */
    private static void listAtItsBounds() {
        ThroughATrumpet x = new ThroughATrumpet();
        for (int n = 0; n <= 6; n++) {
            check.due("all of " + n, x.list(n, 0), (1 << n) - 1);
            check.due("all of " + n + ", by how much", x.list(n, 1), 99 * n * (n - 1));
            check.due("one more than " + n, x.list(n + 1, 0), ThroughATrumpet.BAD);
            check.due("one more than " + n, x.list(n + 1, 1), ThroughATrumpet.BAD);
            if (n < 6) {
                x.word(0, 0);
            }
            for (int w = 0; w < n && n < 6; w++) {
                x.mistake(n, w, 99);
                x.mistake(w, n, 99);
            }
        }
        x.mistake(4, 5, 98);
        check.due("the two that are least so", x.list(2, 0), 16 + 32);
        check.due("by how much", x.list(2, 1), 197);
    }

    private static void bits() {
        ThroughATrumpet x = new ThroughATrumpet();
        check.due("no WORDS", x.bits(0, 0), 0);
        x.word(1234, 1);
        x.word(234, 1);
        x.word(1034, 1);
        x.word(1204, 1);
        x.word(1230, 1);
        x.word(9999, 1);
        check.due("nothing heard", x.bits(5678, 0), 63);
        check.due("the highest", x.bits(1999, 1), 1 + 4 + 8 + 16);
        check.due("the next", x.bits(9299, 2), 1 + 2 + 8 + 16);
        check.due("the third", x.bits(9939, 4), 1 + 2 + 4 + 16);
        check.due("the last", x.bits(4, 8), 1 + 2 + 4 + 8);
        check.due("all of them", x.bits(1234, 15), 1);
        check.due("0 ahead", x.bits(234, 15), 2);
        check.due("none", x.bits(7, 15), 0);
        check.due("two of them", x.bits(1999, 9), 0);
        check.due("two of them", x.bits(1994, 9), 1 + 4 + 8);
        int[][] bad = {{-1, 0}, {10000, 0}, {0, -1}, {0, 16}};
        for (int[] b : bad) {
            check.due("bits, a number that isn't as told", x.bits(b[0], b[1]), ThroughATrumpet.BAD);
        }
    }

    private static void ask() {
        ThroughATrumpet x = new ThroughATrumpet();
        check.due("no WORDS: the first that wasn't heard", x.ask(0, 1, 0), 1);
        check.due("no WORDS: none would be left", x.ask(0, 1, 1), 0);
        x.word(1111, 1);
        x.word(1112, 1);
        x.word(1123, 1);
        x.word(2123, 1);
        check.due("the third, of like ones the first", x.ask(0, 0, 0), 2);
        check.due("two at most", x.ask(0, 0, 1), 2);
        check.due("nothing fits: the first", x.ask(0, 8, 0), 0);
        check.due("nothing fits: none", x.ask(0, 8, 1), 0);
        check.due("of those with 1 ahead", x.ask(1000, 1, 0), 3);
        check.due("one at most", x.ask(1000, 1, 1), 1);
        check.due("the last being heard", x.ask(3, 8, 0), 0);
        check.due("one at most", x.ask(3, 8, 1), 1);
        check.due("but one", x.ask(1120, 7, 0), 3);
        ThroughATrumpet y = new ThroughATrumpet();
        y.word(0, 1);
        y.word(10, 1);
        y.word(1110, 1);
        check.due("0 is a figure as others are: all three have it last", y.ask(0, 0, 0), 0);
        check.due("two at most", y.ask(0, 0, 1), 2);
        check.due("of those with 0 0 ahead the third tells", y.ask(0, 1 + 2, 0), 2);
        check.due("and leaves one", y.ask(0, 1 + 2, 1), 1);
        ThroughATrumpet nines = new ThroughATrumpet();
        for (int w = 0; w < 6; w++) {
            nines.word(9999, 1);
        }
        for (int which = 0; which < 15; which++) {
            int first = Integer.numberOfTrailingZeros(~which);
            check.due("of like ones the first, " + which, nines.ask(9999, which, 0), first);
            check.due("all six are left by a 9, " + which, nines.ask(9999, which, 1), 6);
            check.due("none, where an 8 was heard, " + which, nines.ask(8888, which, 1), which == 0 ? 6 : 0);
        }
        for (int f = 0; f < 10; f++) {
            ThroughATrumpet z = new ThroughATrumpet();
            z.word(1111 * f, 1);
            z.word(1111 * f, 1);
            z.word(1111 * ((f + 1) % 10), 1);
            check.due("two at most have a " + f, z.ask(0, 0, 1), 2);
            check.due("those with a " + f, z.bits(1111 * f, 15), 3);
        }
        check.due("all heard", x.ask(1111, 15, 0), -1);
        check.due("all heard", x.ask(1111, 15, 1), -1);
        int[][] bad = {{-1, 0, 0}, {10000, 0, 0}, {0, -1, 0}, {0, 16, 0}, {0, 0, -1}, {0, 0, 2}, {10000, 15, 0}};
        for (int[] b : bad) {
            check.due("ask, a number that isn't as told", x.ask(b[0], b[1], b[2]), ThroughATrumpet.BAD);
        }
    }

    private static void clocks() {
        clocks(10, 20, 3, 1, new long[] {35, 2, 3, 4});
        clocks(10, 20, 1, 3, new long[] {25, 2, 3, 4});
        clocks(-7, 2, 2, 2, new long[] {-5, 2, 1, 1});
        clocks(-9999, -9999, 99, 99, new long[] {-9999, 1, 99, 2});
        clocks(9999, -9999, 99, 1, new long[] {-489951, 50, 99, 100});
        clocks(0, 0, 5, 7, new long[] {0, 1, 35, 12});
        clocks(-6, 3, 1, 2, new long[] {-3, 1, 2, 3});
        clocks(9999, 9999, 99, 99, new long[] {9999, 1, 99, 2});
        clocks(9999, 9999, 1, 1, new long[] {9999, 1, 1, 2});
        clocks(-9999, 9999, 1, 99, new long[] {-489951, 50, 99, 100});
        clocks(-9999, 9999, 50, 50, new long[] {0, 1, 25, 1});
        clocks(1, 0, 99, 98, new long[] {98, 197, 9702, 197});
        clocks(0, 1, 99, 98, new long[] {99, 197, 9702, 197});
        ThroughATrumpet x = new ThroughATrumpet();
        int[][] bad = {{10000, 0, 101, 0}, {-10000, 0, 101, 0}, {0, 10000, 101, 0}, {0, -10000, 101, 0},
            {0, 0, 100, 0}, {0, 0, 1, 0}, {0, 0, 0, 0}, {0, 0, 10001, 0}, {0, 0, 9900, 0}, {0, 0, -101, 0},
            {0, 0, 101, 4}, {0, 0, 101, -1}, {0, 0, Integer.MIN_VALUE, 0}, {0, 0, Integer.MAX_VALUE, 0}};
        for (int[] b : bad) {
            check.due("clocks, none such", x.clocks(b[0], b[1], b[2], b[3]), NO);
        }
    }

    private static void clocks(int a, int b, int p, int q, long[] due) {
        ThroughATrumpet x = new ThroughATrumpet();
        for (int part = 0; part < 4; part++) {
            check.due("clocks of " + a + " " + b + " " + p + " " + q, x.clocks(a, b, 100 * p + q, part), due[part]);
        }
    }
}

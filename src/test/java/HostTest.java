/** Promises 41 to 45: sheet, cell, copy, sayingsBy, taken. */
public final class HostTest {
    private static final Check check = new Check("HostTest");
    private static final int BAD = ThroughATrumpet.BAD;

    public static void main(String[] args) {
        sheet();
        cell();
        copy();
        copyAtItsBounds();
        bytesAndShorts();
        sayingsBy();
        sayingsByAtItsBounds();
        taken();
        check.end();
    }

    private static void sheet() {
        ThroughATrumpet x = new ThroughATrumpet();
        for (int s = 0; s < 4; s++) {
            for (int sort = 0; sort < 3; sort++) {
                check.due("none of them", x.sheet(s, sort, 0), 1);
                check.due("40", x.sheet(s, sort, 40), 1);
                check.due("the last is there", x.cell(s, 39, 1), 1);
                check.due("41", x.sheet(s, sort, 41), BAD);
                check.due("-1", x.sheet(s, sort, -1), -14);
                check.due("as it was", x.cell(s, 39, 1), 1);
            }
        }
        check.due("sheet(4, 0, 0)", x.sheet(4, 0, 0), BAD);
        check.due("sheet(-1, 0, 0)", x.sheet(-1, 0, 0), BAD);
        check.due("sheet(0, 3, 0)", x.sheet(0, 3, 0), BAD);
        check.due("sheet(0, -2, 0)", x.sheet(0, -2, 0), BAD);
        check.due("BAD ahead of -14", x.sheet(0, 3, -1), BAD);
        check.due("BAD ahead of -14", x.sheet(4, -1, -1), BAD);
        check.due("the smallest n", x.sheet(0, 0, Integer.MIN_VALUE), -14);
        check.due("missing, n does not matter", x.sheet(0, -1, 99), 1);
        check.due("missing", x.cell(0, 0, 0), -11);
        check.due("missing again, n does not matter", x.sheet(0, -1, -99), 1);
        // all 0 again
        x.say(0, 0, 0);
        x.say(0, 1, 0);
        x.sheet(1, 2, 1);
        x.cell(1, 0, 1);
        long of1 = x.judge(1);
        x.sheet(1, 2, 1);
        check.holds("another SAYING", x.judge(1) != of1);
        x.cell(1, 0, 1);
        check.due("and back", x.judge(1), of1);
    }

    private static void cell() {
        ThroughATrumpet x = new ThroughATrumpet();
        check.due("cell(4, 0, 0)", x.cell(4, 0, 0), BAD);
        check.due("cell(-1, 0, 0)", x.cell(-1, 0, 0), BAD);
        check.due("nothing there", x.cell(0, -1, 0), -11);
        x.sheet(0, 0, 2);
        check.due("cell(0, 0, 7)", x.cell(0, 0, 7), 1);
        check.due("cell(0, 2, 7)", x.cell(0, 2, 7), -12);
        check.due("cell(0, -1, 7)", x.cell(0, -1, 7), -12);
        check.due("cell(0, MIN, 7)", x.cell(0, Integer.MIN_VALUE, 7), -12);
        x.sheet(0, 0, 0);
        check.due("of none", x.cell(0, 0, 7), -12);
        // 0x..00 is 0 in a byte; 0x..0000 in a short
        x.say(0, 0, 0);
        int[] asZero = {0x7f00, 0x70000, 0};
        int[] asOther = {0x7f01, 0x7ff00, 0x10000};
        for (int sort = 0; sort < 3; sort++) {
            x.sheet(sort, sort, 1);
            x.cell(sort, 0, asZero[sort]);
            check.due("its lowest bits, sort " + sort, x.judge(sort), 2700000);
            x.cell(sort, 0, asOther[sort]);
            check.due("more than its lowest bits, sort " + sort, x.judge(sort), ThroughATrumpet.NO);
        }
    }

    private static void copy() {
        ThroughATrumpet x = new ThroughATrumpet();
        int[][] bad = {{-1, 0}, {4, 0}, {0, -1}, {0, 4}};
        for (int[] b : bad) {
            check.due("no such SHEET", x.copy(b[0], 0, b[1], 0, 0), BAD);
        }
        check.due("both missing", x.copy(0, 0, 1, 0, -1), -11);
        x.sheet(0, 2, 5);
        check.due("one missing", x.copy(0, 0, 1, 0, 0), -11);
        check.due("the other missing", x.copy(1, 0, 0, 0, 0), -11);
        x.sheet(1, 1, 5);
        check.due("unlike sorts", x.copy(0, 0, 1, 0, -1), -13);
        x.sheet(1, 2, 3);
        int[][] outside = {{0, 0, -1}, {-1, 0, 1}, {0, -1, 1}, {0, 0, 4}, {3, 0, 3}, {0, 1, 3}, {6, 0, 0}, {0, 4, 0},
            {-1, 0, 0}, {0, 0, Integer.MAX_VALUE}, {Integer.MAX_VALUE, 0, 1}, {0, Integer.MAX_VALUE, 2},
            {Integer.MAX_VALUE, 0, Integer.MAX_VALUE}, {0, 0, Integer.MIN_VALUE}};
        for (int[] o : outside) {
            check.due("outside: " + o[0] + " " + o[1] + " " + o[2], x.copy(0, o[0], 1, o[1], o[2]), -12);
        }
        check.due("none, at both ends", x.copy(0, 5, 1, 3, 0), 0);
        check.due("all of the smaller one", x.copy(0, 2, 1, 0, 3), 3);
        copyOverlapping();
    }

    /** By judge() it can be seen in which order the SAYINGS stand. */
    private static void copyOverlapping() {
        ThroughATrumpet x = new ThroughATrumpet();
        for (int t = 0; t < 5; t++) {
            x.say(0, t, 0);
        }
        long[] due = new long[2];
        int[][] orders = {{4, 0, 1, 2, 3}, {1, 2, 3, 4, 0}};
        for (int k = 0; k < 2; k++) {
            x.sheet(1, 0, 5);
            for (int i = 0; i < 5; i++) {
                x.cell(1, i, orders[k][i]);
            }
            due[k] = x.judge(1);
        }
        x.sheet(0, 0, 5);
        for (int i = 0; i < 5; i++) {
            x.cell(0, i, i);
        }
        check.due("forward", x.copy(0, 0, 0, 1, 4), 4);
        x.cell(0, 0, 4);
        check.due("as they were, forward", x.judge(0), due[0]);
        for (int i = 0; i < 5; i++) {
            x.cell(0, i, i);
        }
        check.due("backward", x.copy(0, 1, 0, 0, 4), 4);
        x.cell(0, 4, 0);
        check.due("as they were, backward", x.judge(0), due[1]);
        x.sheet(2, 0, 5);
        check.due("to another one", x.copy(0, 0, 2, 0, 5), 5);
        check.due("it is the same", x.judge(2), due[1]);
    }

    /** SAYINGS by which read() tells the numbers 0 to 5 from one another. */
    private static ThroughATrumpet reading() {
        ThroughATrumpet x = new ThroughATrumpet();
        for (int t = 0; t < 6; t++) {
            x.say(0, t, 0);
        }
        return x;
    }

    /** A number of a SHEET, by way of another SHEET of the same sort that has just one; -1: it is none of 0 to 5. */
    private static int read(ThroughATrumpet x, int s, int sort, int i, int by) {
        long[] worth = {9, 7, 5, 3, 2, 1};
        x.sheet(by, sort, 1);
        check.due("one number", x.copy(s, i, by, 0, 1), 1);
        long got = x.judge(by);
        for (int v = 0; v < 6; v++) {
            if (got == worth[v] * 300000) {
                return v;
            }
        }
        return -1;
    }

    /** 40 numbers, of which some come to other places, of another SHEET or of its own: those, and no others. */
    private static void copyAtItsBounds() {
        int[][] all = {{0, 0, 40}, {0, 1, 39}, {1, 0, 39}, {39, 0, 1}, {0, 39, 1}, {40, 40, 0}, {0, 40, 0}, {40, 0, 0},
            {0, 20, 20}, {20, 0, 20}, {5, 7, 9}, {7, 5, 9}, {3, 3, 30}};
        for (int sort = 0; sort < 3; sort++) {
            for (int[] one : all) {
                for (int other = 0; other <= 3; other += 3) {
                    copyOf40(sort, other, one);
                }
            }
        }
    }

    private static void copyOf40(int sort, int other, int[] one) {
        ThroughATrumpet x = reading();
        int[][] due = new int[4][40];
        for (int s = 0; s <= 3; s += 3) {
            x.sheet(s, sort, 40);
            for (int i = 0; i < 40; i++) {
                due[s][i] = (i * 5 + i / 6 + s) % 6;
                x.cell(s, i, due[s][i]);
            }
        }
        System.arraycopy(due[0], one[0], due[other], one[1], one[2]);
        check.due("copy of " + one[2], x.copy(0, one[0], other, one[1], one[2]), one[2]);
        for (int i = 0; i < 40; i++) {
            check.due("number " + i + " of the one", read(x, 0, sort, i, 1), due[0][i]);
            check.due("number " + i + " of the other", read(x, 3, sort, i, 2), due[3][i]);
        }
    }

    /** The lowest 8 and 16 bits: what is 0 to 5 by them, and what isn't. */
    private static void bytesAndShorts() {
        int[] high = {0, 0x80, 0x100, 0x7f00, 0x8000, 0x10000, 0x7fff0000, 0x80000000, 0xffffff00, 0xffff0000};
        int[] bits = {8, 16, 32};
        ThroughATrumpet x = reading();
        for (int sort = 0; sort < 3; sort++) {
            x.sheet(3, sort, 2);
            for (int h : high) {
                for (int v = 0; v < 6; v += 5) {
                    x.cell(3, 1, h + v);
                    boolean lost = bits[sort] == 32 ? h == 0 : (h & (1 << bits[sort]) - 1) == 0;
                    check.due("sort " + sort + ", " + (h + v), read(x, 3, sort, 1, 0), lost ? v : -1);
                }
            }
            check.due("the one ahead is 0 yet", read(x, 3, sort, 0, 0), 0);
        }
    }

    /** 1 to 8 of them from the first and from the last place from which on they are there. */
    private static void sayingsByAtItsBounds() {
        for (int s = 0; s < 4; s++) {
            for (int n = 0; n <= 8; n++) {
                int sort = (s + n) % 3;
                ThroughATrumpet x = new ThroughATrumpet();
                x.sheet(s, sort, 40);
                for (int i = 0; i < 40; i++) {
                    x.cell(s, i, i % 6);
                }
                check.due("one place too far", x.sayingsBy(s, sort, 41 - 3 * n, n), n == 0 ? 0 : -12);
                check.due("what stood ahead came", x.count(6), Math.max(0, n - 1));
                ThroughATrumpet y = new ThroughATrumpet();
                y.sheet(s, sort, 40);
                for (int i = 0; i < 40; i++) {
                    y.cell(s, i, i % 6);
                }
                int at = 40 - 3 * n;
                check.due("to the last place", y.sayingsBy(s, sort, at, n), n);
                check.due("all came", y.count(6), n);
                for (int i = 0; i < n; i++) {
                    check.due("KIND", y.told(i, 0, 0), (at + 3 * i) % 6);
                    check.due("THING", y.told(i, 0, 1), (at + 3 * i + 1) % 6);
                    check.due("MORE", y.told(i, 0, 2), (at + 3 * i + 2) % 6);
                }
                check.due("from the first place", y.sayingsBy(s, sort, 0, 8 - n), 8 - n);
                check.due("eight", y.count(6), 8);
                check.due("none has room", y.sayingsBy(s, sort, 0, 8), 0);
            }
        }
        // each number just inside and just outside of what say() takes
        int[][] all = {{0, 0, 0, 1}, {5, 5, 9, 1}, {-1, 0, 0, 0}, {6, 0, 0, 0}, {0, -1, 0, 0}, {0, 6, 0, 0}, {0, 0, -1, 0},
            {0, 0, 10, 0}};
        for (int[] one : all) {
            ThroughATrumpet x = new ThroughATrumpet();
            x.sheet(0, 2, 3);
            for (int i = 0; i < 3; i++) {
                x.cell(0, i, one[i]);
            }
            check.due("comes or is left out", x.sayingsBy(0, 2, 0, 1), one[3]);
            check.due("how many there are", x.count(6), one[3]);
        }
    }

    private static void sayingsBy() {
        ThroughATrumpet x = new ThroughATrumpet();
        int[][] bad = {{-1, 0, 0}, {4, 0, 0}, {0, -1, 0}, {0, 3, 0}, {0, 0, -1}, {0, 0, 9}};
        for (int[] b : bad) {
            check.due("sayingsBy, a number that isn't as told", x.sayingsBy(b[0], b[1], 0, b[2]), BAD);
        }
        check.due("nothing there", x.sayingsBy(0, 0, -1, 1), -11);
        x.sheet(0, 1, 10);
        check.due("of another sort", x.sayingsBy(0, 2, -1, 1), -13);
        int[] three = {9, 2, 3, 4, 6, 0, 0, 5, 5, 9};
        for (int i = 0; i < 10; i++) {
            x.cell(0, i, three[i]);
        }
        check.due("the second is BAD", x.sayingsBy(0, 1, 1, 3), 2);
        check.due("two came", x.count(6), 2);
        check.due("KIND", x.told(0, 0, 0), 2);
        check.due("THING", x.told(0, 0, 1), 3);
        check.due("MORE", x.told(0, 0, 2), 4);
        check.due("KIND", x.told(1, 0, 0), 5);
        check.due("THING", x.told(1, 0, 1), 5);
        check.due("MORE", x.told(1, 0, 2), 9);
        check.due("none of them", x.sayingsBy(0, 1, 0, 0), 0);
        check.due("one that is only in part there", x.sayingsBy(0, 1, 8, 1), -12);
        check.due("none came", x.count(6), 2);
        check.due("what stood ahead came", x.sayingsBy(0, 1, 7, 2), -12);
        check.due("one came", x.count(6), 3);
        check.due("below 0", x.sayingsBy(0, 1, -1, 1), -12);
        check.due("far below 0", x.sayingsBy(0, 1, Integer.MIN_VALUE, 8), -12);
        check.due("far above", x.sayingsBy(0, 1, Integer.MAX_VALUE, 8), -12);
        check.due("none came", x.count(6), 3);
        x.sheet(1, 0, 24);
        check.due("only five have room", x.sayingsBy(1, 0, 0, 8), 5);
        check.due("eight", x.count(6), 8);
        check.due("none has", x.sayingsBy(1, 0, 0, 8), 0);
        check.due("outside, though none has", x.sayingsBy(1, 0, 3, 8), -12);
        check.due("eight", x.count(6), 8);
    }

    private static void taken() {
        ThroughATrumpet x = new ThroughATrumpet();
        check.due("nothing lies there", x.taken(0, 6), -11);
        check.due("taken(0, 7)", x.taken(0, 7), BAD);
        check.due("taken(0, -1)", x.taken(0, -1), BAD);
        check.due("BAD ahead of -12", x.taken(14, 7), BAD);
        check.due("taken(14, 0)", x.taken(14, 0), -12);
        check.due("taken(-1, 6)", x.taken(-1, 6), -12);
        x.word(77, 1);
        check.due("a WORD", x.taken(0, 6), 77);
        check.due("the next one", x.taken(1, 6), -11);
        for (int kind = 0; kind < 6; kind++) {
            check.due("a WORD is no SAYING", x.taken(0, kind), -13);
            x.say(kind, 0, 0);
        }
        int[][] isOne = {{1, 0, 0, 0, 0, 0}, {1, 1, 0, 0, 0, 0}, {1, 0, 1, 0, 0, 0}, {1, 1, 0, 1, 0, 0},
            {1, 0, 0, 0, 1, 0}, {1, 0, 0, 0, 1, 1}};
        for (int i = 0; i < 6; i++) {
            for (int kind = 0; kind < 6; kind++) {
                check.due("KIND " + i + " for " + kind, x.taken(6 + i, kind), isOne[i][kind] == 1 ? i : -13);
            }
            check.due("a SAYING is no WORD", x.taken(6 + i, 6), -13);
        }
        check.due("nothing lies there", x.taken(12, 0), -11);
        check.due("nothing lies there", x.taken(13, 6), -11);
        x.say(3, 0, 0);
        x.say(3, 0, 0);
        check.due("the last place", x.taken(13, 1), 7);
    }
}

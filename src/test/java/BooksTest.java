/** Promises 26 to 33: print, printed, join, met, falseOnes, there, last, cellOdds. */
public final class BooksTest {
    private static final Check check = new Check("BooksTest");
    private static final long NO = ThroughATrumpet.NO;
    private static final long ALL = (1L << 61) - 1;

    public static void main(String[] args) {
        print();
        printed();
        joinAndMet();
        oneMeetingAtItsBounds();
        falseOnes();
        speedAtItsBounds();
        there();
        last();
        cellOdds();
        check.end();
    }

    private static void print() {
        ThroughATrumpet x = new ThroughATrumpet();
        int[][] bad = {{-1, 0, 0, 0}, {4, 0, 0, 0}, {0, -1, 0, 0}, {0, 366, 0, 0}, {0, 0, -1, 0}, {0, 0, 61, 0},
            {0, 0, 0, -1}, {0, 0, 0, 10}};
        for (int[] b : bad) {
            check.due("print, a number that isn't as told", x.print(b[0], b[1], b[2], b[3]), ThroughATrumpet.BAD);
        }
        check.due("the largest", x.print(3, 365, 60, 9), 0);
        for (int r = 1; r < 10; r++) {
            check.due("print " + r, x.print(0, 0, 0, 0), r);
        }
        check.due("an eleventh", x.print(0, 0, 0, 0), ThroughATrumpet.FULL);
        check.due("BAD ahead of FULL", x.print(4, 0, 0, 0), ThroughATrumpet.BAD);
        check.due("ten", x.count(8), 10);
    }

    private static void printed() {
        ThroughATrumpet x = new ThroughATrumpet();
        x.print(1, 2, 3, 4);
        x.print(3, 365, 60, 9);
        for (int what = 0; what < 4; what++) {
            check.due("printed(0, " + what + ")", x.printed(0, what), what + 1);
        }
        int[] second = {3, 365, 60, 9};
        for (int what = 0; what < 4; what++) {
            check.due("printed(1, " + what + ")", x.printed(1, what), second[what]);
        }
        check.due("printed(2, 0)", x.printed(2, 0), -5);
        check.due("printed(-1, 0)", x.printed(-1, 0), -5);
        check.due("printed(0, 4)", x.printed(0, 4), -7);
        check.due("printed(0, -1)", x.printed(0, -1), -7);
        check.due("-5 ahead of -7", x.printed(2, 4), -5);
    }

    private static void joinAndMet() {
        ThroughATrumpet x = new ThroughATrumpet();
        check.due("join(0), none", x.join(0), -5);
        x.print(0, 10, 10, 0);
        x.print(0, 11, 12, 0);
        x.print(0, 13, 12, 0);
        x.print(1, 10, 10, 0);
        x.print(0, 10, 13, 0);
        check.due("1 day and 2 cells; by a third one", x.join(0), 1 + 2 + 16);
        check.due("2 days are too many", x.join(2), 4);
        check.due("another ship", x.join(3), 8);
        check.due("met(0)", x.met(0), 2);
        check.due("met(1)", x.met(1), 1);
        check.due("met(3)", x.met(3), 0);
        // the one in between comes last and joins all
        x.print(0, 12, 14, 0);
        check.due("all by a chain", x.join(2), 1 + 2 + 4 + 16 + 32);
        check.due("all from any", x.join(4), 1 + 2 + 4 + 16 + 32);
        check.due("met(0) then", x.met(0), 1);
        check.due("join(6)", x.join(6), -5);
        check.due("join(-1)", x.join(-1), -5);
        check.due("met(4)", x.met(4), -5);
        check.due("met(-1)", x.met(-1), -5);
        ThroughATrumpet y = new ThroughATrumpet();
        int[] cells = {0, 18, 2, 16, 4, 14, 6, 12, 8, 10};
        for (int c : cells) {
            y.print(2, 100, c, 0);
        }
        check.due("a chain of ten", y.join(0), 1023);
        check.due("is one", y.met(2), 1);
    }

    /** DAYS 1 apart at most, CELLS 2 apart at most, on both sides; the SHIP's first and last REPORTS. */
    private static void oneMeetingAtItsBounds() {
        for (int days = -3; days <= 3; days++) {
            for (int cells = -5; cells <= 5; cells++) {
                boolean one = Math.abs(days) <= 1 && Math.abs(cells) <= 2;
                ThroughATrumpet x = new ThroughATrumpet();
                x.print(3, 100, 30, 0);
                x.print(3, 100 + days, 30 + cells, 9);
                check.due("join(0), apart " + days + " " + cells, x.join(0), one ? 3 : 1);
                check.due("join(1), apart " + days + " " + cells, x.join(1), one ? 3 : 2);
                check.due("met(3), apart " + days + " " + cells, x.met(3), one ? 1 : 2);
                x.print(2, 100, 30, 0);
                check.due("not with another SHIP's", x.join(2), 4);
                check.due("another SHIP's is one", x.met(2), 1);
            }
        }
        ThroughATrumpet y = new ThroughATrumpet();
        for (int r = 0; r < 10; r++) {
            y.print(1, 36 * r, 6 * r, r);
        }
        check.due("ten", y.met(1), 10);
        check.due("the first alone", y.join(0), 1);
        check.due("the last alone", y.join(9), 512);
        check.due("none of SHIP 0", y.met(0), 0);
        ThroughATrumpet z = new ThroughATrumpet();
        z.print(0, 0, 0, 0);
        check.due("one alone", z.met(0), 1);
        z.print(0, 365, 60, 0);
        check.due("two at both ends", z.met(0), 2);
    }

    /** No further apart than SPEED times their DAYS: just as far, and one further. */
    private static void speedAtItsBounds() {
        for (int speed = 0; speed <= 60; speed += 6) {
            for (int days = -2; days <= 2; days++) {
                int way = speed * Math.abs(days);
                for (int cells = Math.max(0, way - 1); cells <= Math.min(60, way + 1); cells++) {
                    ThroughATrumpet x = new ThroughATrumpet();
                    x.print(1, 200, 0, 0);
                    x.print(1, 200 + days, cells, 1);
                    String apart = speed + ": " + days + " " + cells;
                    check.due("falseOnes by " + apart, x.falseOnes(1, speed), cells > way ? 1 : 0);
                    ThroughATrumpet y = new ThroughATrumpet();
                    y.print(1, 200, 60, 0);
                    check.due("there by " + apart, x.there(0, speed, 200 + days), ALL);
                    check.due("there by " + apart, y.there(1, speed, 200 + days) >>> 60 - cells & 1, cells > way ? 0 : 1);
                }
            }
        }
        ThroughATrumpet z = new ThroughATrumpet();
        z.print(0, 0, 0, 0);
        z.print(0, 365, 60, 0);
        check.due("standing still", z.falseOnes(0, 0), 1);
        check.due("1 a day is enough", z.falseOnes(0, 1), 0);
    }

    private static void falseOnes() {
        ThroughATrumpet x = new ThroughATrumpet();
        check.due("none", x.falseOnes(0, 0), 0);
        x.print(0, 10, 10, 0);
        check.due("one alone is true", x.falseOnes(0, 0), 0);
        x.print(0, 10, 10, 1);
        check.due("the same in two books", x.falseOnes(0, 0), 0);
        x.print(0, 10, 11, 0);
        check.due("two places in one day, by no speed", x.falseOnes(0, 60), 4);
        x.print(1, 10, 50, 0);
        check.due("another ship's do not matter", x.falseOnes(0, 60), 4);
        x.print(0, 12, 15, 0);
        check.due("5 cells in 2 days by 2: two must be false, the least as bits", x.falseOnes(0, 2), 1 + 2);
        check.due("4 cells in 2 days by 1: two must be false", x.falseOnes(0, 1), 4 + 16);
        check.due("5 cells in 2 days by 3", x.falseOnes(0, 3), 4);
        check.due("the other ship's is true", x.falseOnes(1, 0), 0);
        check.due("falseOnes(4, 0)", x.falseOnes(4, 0), -5);
        check.due("falseOnes(-1, 0)", x.falseOnes(-1, 0), -5);
        check.due("falseOnes(0, 61)", x.falseOnes(0, 61), -7);
        check.due("falseOnes(0, -1)", x.falseOnes(0, -1), -7);
        check.due("-5 ahead of -7", x.falseOnes(4, 61), -5);
        ThroughATrumpet y = new ThroughATrumpet();
        y.print(2, 5, 30, 0);
        y.print(2, 5, 40, 0);
        check.due("of like ones the least as bits", y.falseOnes(2, 5), 1);
        y.print(2, 6, 31, 0);
        check.due("fewest", y.falseOnes(2, 1), 2);
        ThroughATrumpet z = new ThroughATrumpet();
        for (int r = 0; r < 10; r++) {
            z.print(3, 7, 6 * r, 0);
        }
        check.due("but one of ten", z.falseOnes(3, 60), 511);
        ThroughATrumpet w = new ThroughATrumpet();
        for (int r = 0; r < 10; r++) {
            w.print(3, r, 60 * (r % 2), r);
        }
        check.due("by 60 a day all are true", w.falseOnes(3, 60), 0);
        check.due("by 59 every second one", w.falseOnes(3, 59), 1 + 4 + 16 + 64 + 256);
        check.due("then the last is true", w.last(3, 59, 0), 9);
    }

    private static void there() {
        ThroughATrumpet x = new ThroughATrumpet();
        check.due("anywhere", x.there(0, 0, 0), ALL);
        x.print(0, 10, 20, 0);
        check.due("just there", x.there(0, 60, 10), 1L << 20);
        check.due("a day later", x.there(0, 2, 11), 31L << 18);
        check.due("a day ahead", x.there(0, 2, 9), 31L << 18);
        check.due("by the ends", x.there(0, 20, 11), (1L << 41) - 1);
        check.due("all", x.there(0, 40, 11), ALL);
        x.print(0, 14, 24, 0);
        check.due("between", x.there(0, 2, 12), 31L << 20);
        check.due("by 1 just on the way", x.there(0, 1, 12), 1L << 22);
        x.print(0, 10, 50, 0);
        check.due("a false one does not matter", x.there(0, 1, 12), 1L << 22);
        int[][] bad = {{-1, 0, 0}, {4, 0, 0}, {0, -1, 0}, {0, 61, 0}, {0, 0, -1}, {0, 0, 366}};
        for (int[] b : bad) {
            check.due("there, none such", x.there(b[0], b[1], b[2]), NO);
        }
        ThroughATrumpet y = new ThroughATrumpet();
        y.print(1, 0, 0, 0);
        y.print(1, 365, 60, 0);
        check.due("the longest way", y.there(1, 60, 365), 1L << 60);
    }

    private static void last() {
        ThroughATrumpet x = new ThroughATrumpet();
        check.due("there is none", x.last(0, 0, 0), -1);
        check.due("there is none", x.last(0, 0, 1), -1);
        x.print(0, 10, 20, 0);
        x.print(0, 30, 25, 0);
        x.print(0, 20, 22, 0);
        check.due("the latest DAY", x.last(0, 60, 0), 30);
        check.due("its CELL", x.last(0, 60, 1), 25);
        x.print(0, 31, 60, 0);
        check.due("a false one does not count", x.last(0, 1, 0), 30);
        check.due("by a higher speed it does", x.last(0, 35, 1), 60);
        x.print(1, 40, 7, 0);
        x.print(1, 40, 7, 1);
        check.due("of like ones", x.last(1, 0, 1), 7);
        ThroughATrumpet y = new ThroughATrumpet();
        y.print(2, 365, 59, 0);
        check.due("one alone", y.last(2, 0, 0), 365);
        y.print(2, 0, 60, 0);
        y.print(2, 300, 60, 0);
        check.due("the first that was printed is the latest", y.last(2, 1, 0), 365);
        check.due("its CELL", y.last(2, 1, 1), 59);
        check.due("without any speed it is the false one", y.last(2, 0, 0), 300);
        check.due("none of another SHIP", y.last(1, 1, 0), -1);
        ThroughATrumpet z = new ThroughATrumpet();
        z.print(2, 0, 0, 0);
        check.due("DAY 0", z.last(2, 60, 0), 0);
        check.due("CELL 0", z.last(2, 60, 1), 0);
        check.due("last(4, 0, 0)", x.last(4, 0, 0), -5);
        check.due("last(-1, 0, 0)", x.last(-1, 0, 0), -5);
        check.due("last(0, 61, 0)", x.last(0, 61, 0), -7);
        check.due("last(0, -1, 0)", x.last(0, -1, 0), -7);
        check.due("last(0, 0, 2)", x.last(0, 0, 2), -7);
        check.due("last(0, 0, -1)", x.last(0, 0, -1), -7);
        check.due("-5 ahead of -7", x.last(4, 61, 2), -5);
    }

    private static void cellOdds() {
        ThroughATrumpet x = new ThroughATrumpet();
        odds(x, 0, 0, 0, 1, 61);
        odds(x, 5, 1L << 4, 0, 1, 60);
        odds(x, 4, 1L << 4, 0, 0, 1);
        odds(x, 0, -1L, 0, 0, 1);
        odds(x, 0, -2L, 0, 1, 1);
        x.print(0, 10, 20, 0);
        odds(x, 20, 0, 2011, 1, 5);
        odds(x, 22, 0, 2011, 1, 5);
        odds(x, 23, 0, 2011, 0, 1);
        odds(x, 22, 1L << 50 | 1L << 20 | 1L << 63, 2011, 1, 4);
        odds(x, 20, 1L << 20, 10, 0, 1);
        odds(x, 60, 0, 60365, 1, 61);
        odds(x, 20, 0, 3012, 1, 13);
        odds(x, 26, 0, 3012, 1, 13);
        odds(x, 27, 0, 3012, 0, 1);
        odds(x, 20, 0, 1000, 1, 21);
        odds(x, 20, 0, 365, 1, 1);
        odds(x, 0, 0, 2000, 1, 41);
        odds(x, 41, 0, 2000, 0, 1);
        // the last CELL alone is left, and what lies behind it does not matter
        odds(x, 60, (1L << 60) - 1, 60365, 1, 1);
        odds(x, 60, Long.MIN_VALUE | 1L << 62 | 1L << 61, 60365, 1, 61);
        odds(x, 60, 1L << 60, 60365, 0, 1);
        odds(x, 0, 1, 60365, 0, 1);
        int[][] bad = {{-1, 0, 0, 0}, {4, 0, 0, 0}, {0, -1, 0, 0}, {0, 366, 0, 0}, {0, 999, 0, 0}, {0, 61000, 0, 0},
            {0, Integer.MAX_VALUE, 0, 0}, {0, Integer.MIN_VALUE, 0, 0}, {0, -1000, 0, 0}, {0, 0, -1, 0}, {0, 0, 61, 0},
            {0, 0, 0, -1}, {0, 0, 0, 2}};
        for (int[] b : bad) {
            check.due("cellOdds, none such", x.cellOdds(b[0], b[1], b[2], 0L, b[3]), NO);
        }
    }

    private static void odds(ThroughATrumpet x, int c, long empty, int when, long above, long below) {
        check.due("cellOdds above, " + c + " by " + when, x.cellOdds(0, when, c, empty, 0), above);
        check.due("cellOdds below, " + c + " by " + when, x.cellOdds(0, when, c, empty, 1), below);
    }
}

/** Promises 6 to 9: feed, text, force, asks; and what a TEXT says. */
public final class LawTest {
    private static final Check check = new Check("LawTest");
    private static final String REST = ";chalk 1;takes 1;";

    public static void main(String[] args) {
        feed();
        feedOfEachSize();
        text();
        faults();
        bytes();
        fullTapes();
        fullTexts();
        depth();
        force();
        asks();
        values();
        bounds();
        wraps();
        names();
        shorterBehindLonger();
        theFirstLaw();
        check.end();
    }

    private static void feed() {
        ThroughATrumpet x = new ThroughATrumpet();
        check.due("feed(0, 0)", x.feed(0, 0), ThroughATrumpet.BAD);
        check.due("feed(0, 9)", x.feed(0, 9), ThroughATrumpet.BAD);
        check.due("feed(0, -1)", x.feed(0, -1), ThroughATrumpet.BAD);
        check.due("nothing came", x.count(12), 0);
        // h a d blank: the highest of the lowest four, first; what is above does not matter
        check.due("feed had", x.feed(0x4142434468616420L, 4), 4);
        check.due("feed the rest", Tapes.feed(x, "7;chalk 1;takes 2;"), 22);
        check.due("it is a text", x.text(), 1);
        x.force(1);
        check.due("had 7", x.asks(0, 0, 0), 7);
        for (int k = 1; k <= 20; k++) {
            check.due("feed eight", x.feed(-1L, 8), 8 * k);
        }
        check.due("feed one too many", x.feed(32, 1), ThroughATrumpet.FULL);
        check.due("BAD ahead of FULL", x.feed(32, 9), ThroughATrumpet.BAD);
        check.due("160 stay", x.count(12), 160);
        ThroughATrumpet y = new ThroughATrumpet();
        for (int k = 1; k <= 19; k++) {
            y.feed(32, 8);
        }
        y.feed(32, 7);
        check.due("159 and two are too many", y.feed(32, 2), ThroughATrumpet.FULL);
        check.due("159 and one", y.feed(32, 1), 160);
    }

    /** The n lowest bytes, the highest first: what stands above them is fed by no n. */
    private static void feedOfEachSize() {
        String text = "had 1234;chalk 56;takes 2;";
        for (int n = 1; n <= 8; n++) {
            ThroughATrumpet x = new ThroughATrumpet();
            for (int from = 0; from < text.length(); from += n) {
                int size = Math.min(n, text.length() - from);
                // above them stand bytes that begin no TOKEN
                long w = -1L;
                for (int k = 0; k < size; k++) {
                    w = w << 8 | text.charAt(from + k);
                }
                check.due("feed " + size + " at " + from, x.feed(w, size), from + size);
            }
            check.due("fed by " + n, x.text(), 1);
            x.force(1);
            check.due("had, fed by " + n, x.asks(0, 0, 0), 100);
            check.due("chalk, fed by " + n, x.asks(1, 0, 0), 56);
            check.due("takes, fed by " + n, x.asks(2, 0, 0), 2);
        }
        // each size that fits up to 160, and the first that doesn't: that one leaves THE TAPE as it is
        for (int n = 1; n <= 8; n++) {
            ThroughATrumpet x = new ThroughATrumpet();
            int fed = 0;
            for (; fed + n <= 160; fed += n) {
                check.due("feed by " + n, x.feed(0, n), fed + n);
            }
            check.due("no room for " + n, x.feed(0, n), ThroughATrumpet.FULL);
            check.due("as many as there were", x.count(12), fed);
            for (; fed < 160; fed++) {
                check.due("one has room", x.feed(0, 1), fed + 1);
            }
            check.due("none has", x.feed(0, 1), ThroughATrumpet.FULL);
        }
    }

    private static void text() {
        ThroughATrumpet x = new ThroughATrumpet();
        check.due("an empty tape", x.text(), -100);
        check.due("text 1", Tapes.read(x, "had 95-far*4;chalk 90;takes 1;"), 1);
        check.due("the tape is empty then", x.count(12), 0);
        check.due("a fault", Tapes.read(x, "had ;"), -104);
        check.due("the tape is empty by a fault, too", x.count(12), 0);
        check.due("a fault is no TEXT", x.count(10), 2);
        check.due("without blanks", Tapes.read(x, "had1;chalk1;takes1;"), 2);
        check.due("with blanks of both sorts", Tapes.read(x, "\n had\n1 \n; chalk (1) ; takes\n1;\n "), 3);
        check.due("text 4", Tapes.read(x, "had not 1 < 2 or 3 = 4 and 5;chalk - - 1;takes 1 - -1;"), 4);
        check.due("text 5", Tapes.read(x, "had far+wind+noise+word+sail+minute;chalk 1;takes 1;"), 5);
        check.due("THE LAW is as it was", x.count(11), 0);
        Tapes.feed(x, "had ;");
        check.due("FULL ahead of the FAULT", x.text(), ThroughATrumpet.FULL);
        check.due("then the tape stays", x.count(12), 5);
        check.due("TEXTS", x.count(10), 6);
    }

    private static void faults() {
        fault("", 0);
        fault("   ", 3);
        fault("had", 3);
        fault("had ", 4);
        fault("chalk 1;had 1;takes 1;", 0);
        fault("had 1;takes 1;chalk 1;", 6);
        fault("had 1 chalk 1;takes 1;", 6);
        fault("had 1;chalk 1;takes 1", 21);
        fault("had 1;chalk 1;takes 1 \n ", 24);
        fault("had 1;chalk 1;takes 1;;", 22);
        fault("had 1;chalk 1;takes 1; far", 23);
        fault("had 1;chalk 1;takes 1;  #", 24);
        fault("had 1;chalk 1;takes 1;\t", 22);
        fault("had 1;\u0000", 6);
        fault("had \u00ff;", 4);
        fault("Had 1;", 0);
        fault("hads 1;", 0);
        fault("ha d 1;", 0);
        fault("had fa r;", 4);
        fault("had fars;", 4);
        fault("had farwind;", 4);
        fault("had far wind;", 8);
        fault("had 2far;", 5);
        fault("had far2;", 7);
        fault("had 1 2;", 6);
        fault("had 12345;", 4);
        fault("had 00001;", 4);
        fault("had 1+12345;", 6);
        fault("had chalk;", 4);
        fault("had +1;", 4);
        fault("had 1+;", 6);
        fault("had 1+*2;", 6);
        fault("had 1 * not 2;", 8);
        fault("had 1 + not 2;", 8);
        fault("had - not 2;", 6);
        fault("had 1 < not 2;", 8);
        fault("had 1 < 2 < 3;", 10);
        fault("had 1 < 2 = 3;", 10);
        fault("had 1 = = 3;", 8);
        fault("had not;", 7);
        fault("had 1 or;", 8);
        fault("had or 1;", 4);
        fault("had 1 and and 1;", 10);
        fault("had 1 and or 1;", 10);
        fault("had 1 not 1;", 6);
        fault("had ();", 5);
        fault("had (1;", 6);
        fault("had (1));", 7);
        fault("had (1", 6);
        fault("had )#", 4);
        fault("had 1 , 2", 6);
        fault("had 1 > 2", 6);
        fault("had (1 2 #", 7);
        fault("had 1;chalk @", 12);
        fault("had had 1;", 4);
        ThroughATrumpet x = new ThroughATrumpet();
        check.due("9999", Tapes.read(x, "had 9999;chalk 0000;takes 1;"), 1);
        check.due("not not", Tapes.read(x, "had not not 1 < 2;chalk (1 < 2) < 3;takes (not 1) + 1;"), 2);
    }

    /** Place -101: there is none. */
    private static void fault(String text, int place) {
        ThroughATrumpet x = new ThroughATrumpet();
        check.due("FAULT of '" + text + "'", Tapes.read(x, text), -100 - place);
        check.due("how many TEXTS", x.count(10), place == -101 ? 2 : 1);
    }

    /** Each byte where a SIGN or a blank may stand, and at the very end. */
    private static void bytes() {
        for (char b = 0; b < 256; b++) {
            boolean blank = b == 32 || b == 10;
            boolean joins = b == '+' || b == '-' || b == '*' || b == '<' || b == '=';
            boolean digit = b >= '0' && b <= '9';
            fault("had 1;chalk 1;takes 1;" + b, blank ? -101 : 22);
            fault(b + "had 1;chalk 1;takes 1;", blank ? -101 : 0);
            // a letter, a sign that joins nothing, or what begins no token can't stand behind a NUMBER
            fault("had 1" + b + "1;chalk 1;takes 1;", joins || digit ? -101 : blank ? 6 : b == ';' ? 6 : 5);
        }
        for (char letter = 'a'; letter <= 'z'; letter++) {
            fault("had far" + letter + ";", 4);
            fault("had " + letter + ";", 4);
        }
    }

    /** Five TEXTS as long as can be, each of which says what it says. */
    private static void fullTexts() {
        ThroughATrumpet x = new ThroughATrumpet();
        for (int t = 1; t <= 5; t++) {
            check.due("a long TEXT", Tapes.read(x, "had " + t + "+1".repeat(69) + ";chalk " + t + ";takes " + t + ";"), t);
        }
        for (int t = 1; t <= 5; t++) {
            x.force(t);
            check.due("had of TEXT " + t, x.asks(0, 0, 0), 69 + t);
            check.due("chalk of TEXT " + t, x.asks(1, 0, 0), t);
            check.due("takes of TEXT " + t, x.asks(2, 0, 0), t);
        }
    }

    /** 160 bytes, of which each is a token or the last one is cut off by the end. */
    private static void fullTapes() {
        ThroughATrumpet x = new ThroughATrumpet();
        check.due("70 ones", Tapes.read(x, "had 1" + "+1".repeat(69) + REST), 1);
        x.force(1);
        check.due("are 70", x.asks(0, 0, 0), 70);
        check.due("one too many has no room", Tapes.feed(x, "had 11" + "+1".repeat(69) + REST), ThroughATrumpet.FULL);
        ThroughATrumpet y = new ThroughATrumpet();
        check.due("numbers that are as long as can be", Tapes.read(y, "had 9999" + "*0003".repeat(27) + REST), 1);
        for (String token : new String[] {"(", "-", ")", ";", "1", "a", "=", " ", "\n", "#"}) {
            fault(token.repeat(160), token.isBlank() ? 160 : 0);
            fault("had 1;chalk 1;takes 1;" + " ".repeat(137) + token, token.isBlank() ? -101 : 159);
        }
        fault("had " + "1+".repeat(78), 160);
        fault("had  " + "1+".repeat(77) + "1", 160);
        fault("had " + "1+".repeat(76) + "far+", 160);
        fault("had  " + "1+".repeat(76) + "far", 160);
        fault("had  " + "1+".repeat(76) + "fa1", 157);
    }

    private static void depth() {
        good("had (((((1)))))" + REST);
        fault("had ((((((1))))))" + REST, 9);
        good("had -----1" + REST);
        fault("had ------1" + REST, 9);
        good("had not not not not not 1" + REST);
        fault("had not not not not not not 1" + REST, 24);
        good("had not -(not -1)" + REST);
        good("had not -(not (1))" + REST);
        fault("had not -(not (-1))" + REST, 15);
        fault("had not -(not - -1)" + REST, 16);
        fault("had not -(-(not 1))" + REST, 12);
        fault("had (((((not 1)))))" + REST, 9);
        // what is closed doesn't count any more, and a - between two TERMS never does
        good("had ((((-1-2-3-4-5-6-7))))" + REST);
        good("had (((((1)))))+(((((2)))))-(((((3)))))" + REST);
        good("had ((((-1*-2*-3+-4))))" + REST);
        good("had ((((not 1 and not 2 or not 3))))" + REST);
        good("had not not not not not 1 and not not not not not 2" + REST);
        good("had -----1*-----2" + REST);
        fault("had ((((not -1))))" + REST, 12);
        fault("had -----(1)" + REST, 9);
        good("had 1;chalk (((((1)))));takes -----1;");
        // a not is open up to where its NOT ends, so over both SUMS
        fault("had not 1 < (((((1)))))" + REST, 16);
        good("had not 1 < ((((1))))" + REST);
        good("had not 1 and (((((1)))))" + REST);
    }

    private static void good(String text) {
        check.due("a TEXT: '" + text + "'", Tapes.read(new ThroughATrumpet(), text), 1);
    }

    private static void force() {
        ThroughATrumpet x = new ThroughATrumpet();
        check.due("force(1)", x.force(1), ThroughATrumpet.BAD);
        check.due("force(-1)", x.force(-1), ThroughATrumpet.BAD);
        check.due("force(0)", x.force(0), 0);
        Tapes.read(x, "had 11;chalk 12;takes 3;");
        Tapes.read(x, "had 21;chalk 22;takes 4;");
        check.due("force(2)", x.force(2), 0);
        check.due("had of 2", x.asks(0, 3, 3), 21);
        check.due("force(1)", x.force(1), 2);
        check.due("chalk of 1", x.asks(1, 3, 3), 12);
        check.due("force(3)", x.force(3), ThroughATrumpet.BAD);
        check.due("still 1", x.count(11), 1);
        check.due("force(0)", x.force(0), 1);
    }

    private static void asks() {
        ThroughATrumpet x = new ThroughATrumpet();
        check.due("asks(0, 0, 0)", x.asks(0, 0, 0), 30);
        check.due("asks(0, 5, 0)", x.asks(0, 5, 0), 70);
        check.due("asks(1, 0, 0)", x.asks(1, 0, 0), 20);
        check.due("asks(1, 5, 5)", x.asks(1, 5, 5), 70);
        check.due("asks(2, 10, 5)", x.asks(2, 10, 5), 1);
        int[][] bad = {{-1, 0, 0}, {3, 0, 0}, {0, -1, 0}, {0, 11, 0}, {0, 0, -1}, {0, 0, 6}};
        for (int[] b : bad) {
            check.due("asks, a number that isn't as told", x.asks(b[0], b[1], b[2]), ThroughATrumpet.BAD);
        }
        x.set(4, 1 << 5);
        check.due("a sail between", x.asks(0, 5, 0), 30);
        check.due("none in the next", x.asks(0, 6, 0), 62);
        x.set(2, -9);
        check.due("wind", x.asks(0, 6, 0), 44);
        x.set(0, 20);
        x.set(1, 9);
        check.due("had is 0 at least", x.asks(0, 0, 0), 0);
        check.due("chalk is 0 at least", x.asks(1, 0, 0), 0);
        x.set(0, 0);
        x.set(1, 0);
        x.set(2, 9);
        x.set(3, 0);
        check.due("had is 100 at most", x.asks(0, 0, 0), 100);
        Tapes.read(x, "had 5; chalk 101; takes 0;");
        Tapes.read(x, "had 5; chalk -1; takes 7;");
        x.force(1);
        check.due("chalk is 100 at most", x.asks(1, 0, 0), 100);
        check.due("takes is 1 at least", x.asks(2, 0, 0), 1);
        x.force(2);
        check.due("chalk is 0 at least", x.asks(1, 0, 0), 0);
        check.due("takes is 6 at most", x.asks(2, 0, 0), 6);
        x.set(5, 12);
        check.due("asks(0, 11, 0)", x.asks(0, 11, 0), 5);
    }

    private static void values() {
        value("word*10", 30);
        value("minute", 2);
        value("far", 10);
        value("noise", 3);
        value("wind+50", 50);
        value("sail", 0);
        value("2+3*4", 14);
        value("(2+3)*4", 20);
        value("20-3-4", 13);
        value("20-(3-4)", 21);
        value("-3*-4", 12);
        value("- 3 + 10", 7);
        value("2*3*4-1", 23);
        value("5 or 0", 1);
        value("0 or 0", 0);
        value("5 and 7", 1);
        value("5 and 0", 0);
        value("not 5", 0);
        value("not 0", 1);
        value("not not 5", 1);
        value("7", 7);
        value("(7)", 7);
        value("3 < 4", 1);
        value("4 < 4", 0);
        value("4 = 4", 1);
        value("4 = 5", 0);
        value("not 3 < 4", 0);
        value("not 1 + 1", 0);
        value("not 1 = 0", 1);
        value("(not 1) + 8", 8);
        value("1 or 0 and 0", 1);
        value("(1 or 0) and 0", 0);
        value("not 1 or 1", 1);
        value("not (1 or 1)", 0);
        value("not 0 and 0", 0);
        value("1 + 1 < 1 + 2", 1);
        value("2 * 3 = 6", 1);
        value("-1 < 0", 1);
        value("(3 < 4) * 44", 44);
        value("far < 11 and minute = 2", 1);
        // 32 bits that wrap: 9999 ^ 3 is -1112159, modulo 2 ^ 32
        int cube = 9999 * 9999 * 9999;
        value("9999*9999*9999", Math.max(0, Math.min(100, cube)));
        value("9999*9999*9999 < 0", cube < 0 ? 1 : 0);
        // 65536 squared is 0
        value("(4096*16)*(4096*16) = 0", 1);
        value("4096*16*16*2048 < 0", 1);
        value("4096*16*16*2048 - 1 < 0", 0);
        value("-(4096*16*16*2048) < 0", 1);
        // what is not true is 0, what is true is 1, whatever it was
        value("(0 or 0) + 5", 5);
        value("(0 or 7) + 5", 6);
        value("(7 and 0) + 5", 5);
        value("(7 and 7) + 5", 6);
        value("(7 < 7) + 5", 5);
        value("(7 < 8) + 5", 6);
        value("(7 = 8) + 5", 5);
        value("(7 = 7) + 5", 6);
        value("(not 7) + 5", 5);
        value("(not 0) + 5", 6);
        value("-1 and 1", 1);
        value("1 and -1", 1);
        value("-1 or 0", 1);
        value("0 or -1", 1);
        value("not -1", 0);
        value("- -1 < 2", 1);
        value("4096*16*16*2048 + 4096*16*16*2048", 0);
    }

    /** The last that is inside and the first that is outside of 0 .. 100, of 1 .. 6; in the document's order. */
    private static void bounds() {
        int[][] all = {{-9999, 0, 1}, {-1, 0, 1}, {0, 0, 1}, {1, 1, 1}, {2, 2, 2}, {5, 5, 5}, {6, 6, 6}, {7, 7, 6},
            {99, 99, 6}, {100, 100, 6}, {101, 100, 6}, {9999, 100, 6}};
        for (int[] one : all) {
            ThroughATrumpet x = new ThroughATrumpet();
            Tapes.read(x, "had " + one[0] + ";chalk " + one[0] + ";takes " + one[0] + ";");
            x.force(1);
            check.due("had " + one[0], x.asks(0, 10, 5), one[1]);
            check.due("chalk " + one[0], x.asks(1, 10, 5), one[1]);
            check.due("takes " + one[0], x.asks(2, 10, 5), one[2]);
        }
    }

    /** 32 bits: T is 2 ^ 31, which is the least int; each of + - * and - alone goes over the edge. */
    private static void wraps() {
        String t = "4096*16*16*2048";
        value(t, 0);
        value(t + " - 1", 100);
        value(t + " - 1 + 1", 0);
        value(t + " - 1 + 1 < 0", 1);
        value("-(" + t + ") = " + t, 1);
        value("0 - " + t + " < 0", 1);
        value("0 - 1 - (" + t + " - 1) = " + t, 1);
        value("-2 - (" + t + " - 1) < 0", 0);
        value("-2 - (" + t + " - 1) = " + t + " - 1", 1);
        value("(" + t + " - 1) * 2", 0);
        value("(" + t + " - 1) * 2 = -2", 1);
        value("(" + t + ") * 2 = 0", 1);
        value("(" + t + ") * -1 = " + t, 1);
        value("not " + t, 0);
        value("(" + t + ") * 2 or 0", 0);
        value(t + " and 1", 1);
        value(t + " < " + t + " - 1", 1);
        value(t + " - 1 < " + t, 0);
    }

    /** In MINUTE 2 of THING 3. */
    private static void value(String e, int due) {
        String[] texts = {"had " + e + ";chalk 9;takes 9;", "had 9;chalk " + e + ";takes 9;", "had 9;chalk 9;takes " + e + ";"};
        int[] bounded = {due, due, Math.max(1, Math.min(6, due))};
        for (int part = 0; part < 3; part++) {
            ThroughATrumpet x = new ThroughATrumpet();
            check.due(texts[part], Tapes.read(x, texts[part]), 1);
            x.force(1);
            check.due(texts[part], x.asks(part, 2, 3), bounded[part]);
        }
    }

    /** Each NAME from the least to the most that it can stand for. */
    private static void names() {
        ThroughATrumpet x = new ThroughATrumpet();
        Tapes.read(x, "had far;chalk 50 + wind;takes noise;");
        Tapes.read(x, "had 10 * word;chalk sail;takes 1 + sail;");
        Tapes.read(x, "had minute;chalk far - 60;takes minute - 5;");
        x.force(1);
        for (int near = 0; near <= 20; near++) {
            x.set(0, near);
            check.due("far with NEAR " + near, x.asks(0, 0, 0), near + 10);
        }
        for (int wind = -9; wind <= 9; wind++) {
            x.set(2, wind);
            check.due("wind " + wind, x.asks(1, 0, 0), 50 + wind);
        }
        for (int noise = 0; noise <= 9; noise++) {
            x.set(3, noise);
            check.due("noise " + noise, x.asks(2, 0, 0), Math.max(1, Math.min(6, noise)));
        }
        x.force(2);
        for (int thing = 0; thing < 6; thing++) {
            check.due("word " + thing, x.asks(0, 0, thing), 10 * thing);
        }
        x.set(5, 12);
        for (int sail = 0; sail < 12; sail++) {
            x.set(4, 1 << sail);
            for (int m = sail - 1; m <= sail + 1; m++) {
                int due = m < 0 || m > 11 ? ThroughATrumpet.BAD : m == sail ? 1 : 0;
                check.due("a sail in " + sail + ", MINUTE " + m, x.asks(1, m, 0), due);
            }
        }
        x.force(3);
        x.set(1, 9);
        for (int m = 0; m < 12; m++) {
            check.due("minute " + m, x.asks(0, m, 0), m);
            check.due("minute " + m + " less 5", x.asks(2, m, 0), Math.max(1, m - 5));
        }
        check.due("FAR 69 less 60", x.asks(1, 0, 0), 9);
        check.due("FAR 60 less 60", x.asks(1, 1, 0), 0);
        check.due("FAR 69 less 60, on the other side", x.asks(1, 11, 0), 9);
    }

    /** What a longer TEXT, or one with a FAULT, left behind does not matter to a shorter one. */
    private static void shorterBehindLonger() {
        String[] longer = {"had 1;chalk 2;takes 3+1*2-4<5=", "had 1+1+1+1+1+1;chalk 2*2*2*2;takes 3-1-1-1-1;",
            "had not 1;chalk not not 2;takes - - -3;", "had 1 or 2 and 3;chalk 1 < 2;takes 5*(4 = 4);"};
        for (String one : longer) {
            ThroughATrumpet x = new ThroughATrumpet();
            Tapes.read(x, one);
            for (String size : new String[] {"", "+0", "+0+0", "+0+0+0", "*1*1*1*1"}) {
                int t = Tapes.read(x, "had 7;chalk 8;takes 2" + size + ";");
                if (t > 0) {
                    x.force(t);
                    check.due("had behind " + one, x.asks(0, 0, 0), 7);
                    check.due("chalk behind " + one, x.asks(1, 0, 0), 8);
                    check.due("takes behind " + one, x.asks(2, 0, 0), 2);
                }
            }
            check.due("TEXTS", x.count(10), 6);
        }
    }

    private static void theFirstLaw() {
        String first = "had 95 - far * 4 + wind * 2 - noise * 3 - sail * 40 ; chalk 90 - far * 5 ; takes 1 ;";
        for (int wind = -9; wind <= 9; wind += 3) {
            ThroughATrumpet x = new ThroughATrumpet();
            Tapes.read(x, first);
            x.set(4, 0x555);
            x.set(2, wind);
            x.set(3, 9 + Math.min(0, wind));
            for (int part = 0; part < 3; part++) {
                for (int m = 0; m < 11; m++) {
                    x.force(0);
                    int of0 = x.asks(part, m, m % 6);
                    x.force(1);
                    check.due("TEXT 0 says as its text does", of0, x.asks(part, m, m % 6));
                }
            }
        }
    }
}

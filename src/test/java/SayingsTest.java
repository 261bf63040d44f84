/** Promises 10 to 17: say, told, run, minute, judge, best, side, leave. */
public final class SayingsTest {
    private static final Check check = new Check("SayingsTest");
    private static final long NO = ThroughATrumpet.NO;

    public static void main(String[] args) {
        say();
        told();
        kinds();
        kindsAtTheirBounds();
        run();
        endsInTime();
        minute();
        judge();
        judgeAtItsBounds();
        best();
        bestOfFew();
        bestOfFiveAndSix();
        side();
        leave();
        check.end();
    }

    /** An object whose law is the one told. */
    private static ThroughATrumpet by(String law) {
        ThroughATrumpet x = new ThroughATrumpet();
        check.due("a law: " + law, Tapes.read(x, law), 1);
        x.force(1);
        return x;
    }

    private static void say() {
        ThroughATrumpet x = new ThroughATrumpet();
        int[][] bad = {{-1, 0, 0}, {6, 0, 0}, {0, -1, 0}, {0, 6, 0}, {0, 0, -1}, {0, 0, 10}};
        for (int[] b : bad) {
            check.due("say, a number that isn't as told", x.say(b[0], b[1], b[2]), ThroughATrumpet.BAD);
        }
        for (int i = 0; i < 8; i++) {
            check.due("say " + i, x.say(i % 6, (i + 2) % 6, i + 1), i);
        }
        check.due("a ninth", x.say(0, 0, 0), ThroughATrumpet.FULL);
        check.due("BAD ahead of FULL", x.say(0, 0, 10), ThroughATrumpet.BAD);
        check.due("eight", x.count(6), 8);
        for (int i = 0; i < 8; i++) {
            check.due("KIND", x.told(i, 0, 0), i % 6);
            check.due("THING", x.told(i, 0, 1), (i + 2) % 6);
            check.due("MORE", x.told(i, 0, 2), i + 1);
        }
    }

    private static void told() {
        ThroughATrumpet x = new ThroughATrumpet();
        check.due("none yet", x.told(0, 0, 0), -5);
        x.say(0, 1, 2);
        check.due("told(1, 0, 0)", x.told(1, 0, 0), -5);
        check.due("told(-1, 0, 0)", x.told(-1, 0, 0), -5);
        check.due("told(0, 11, 3)", x.told(0, 11, 3), -7);
        check.due("told(0, 11, 0): a MINUTE that isn't, though it doesn't matter", x.told(0, 11, 0), -7);
        check.due("told(0, -1, 3)", x.told(0, -1, 3), -7);
        check.due("told(0, 0, 6)", x.told(0, 0, 6), -7);
        check.due("told(0, 0, -1)", x.told(0, 0, -1), -7);
        check.due("-5 ahead of -7", x.told(1, 11, 6), -5);
        int[] mouth = {1, 1, 1, 1, 0, 0};
        for (int kind = 0; kind < 6; kind++) {
            int i = x.say(kind, 0, 0);
            check.due("by mouth, KIND " + kind, x.told(i, 4, 5), mouth[kind]);
        }
    }

    private static void kinds() {
        int[] mores = {0, 1, 2, 3, 5, 6, 8, 9};
        for (int had = 0; had <= 100; had += 10) {
            for (int takes = 1; takes <= 6; takes++) {
                ThroughATrumpet[] of = new ThroughATrumpet[6];
                for (int kind = 0; kind < 6; kind++) {
                    of[kind] = by("had " + had + ";chalk " + (100 - had) + ";takes " + takes + ";");
                    for (int more : mores) {
                        of[kind].say(kind, 3, more);
                    }
                }
                for (int i = 0; i < mores.length; i++) {
                    kindsOf(of, i, had, takes, mores[i]);
                }
            }
        }
        ThroughATrumpet x = new ThroughATrumpet();
        x.say(5, 0, 7);
        check.due("FLAGGED, FAR 14 is 2 times 7", x.told(0, 0, 3), 100);
        x.say(5, 0, 6);
        check.due("FLAGGED, FAR 14 is more than 12", x.told(1, 0, 3), 10);
        check.due("FLAGGED, FAR 12", x.told(1, 1, 3), 100);
        x.set(0, 5);
        check.due("FLAGGED, FAR 15: half of 15, cut", x.told(0, 0, 3), 7);
        ThroughATrumpet y = by("had word*10+minute;chalk word*7+minute;takes word-2;");
        y.say(0, 4, 0);
        y.say(4, 5, 0);
        check.due("had of its THING and MINUTE", y.told(0, 9, 3), 49);
        check.due("chalk of its THING and MINUTE", y.told(1, 9, 3), 44);
        check.due("takes of its THING", y.told(0, 9, 4), 2);
        check.due("takes of its THING", y.told(1, 9, 4), 3);
    }

    private static void kindsOf(ThroughATrumpet[] of, int i, int had, int takes, int more) {
        int p = Math.min(100, had + 3 * more);
        int figured = 100;
        for (int k = 0; k < more + 1; k++) {
            figured = figured * Math.min(100, had + 10) / 100;
        }
        int far = 4;
        int[] likely = {had, p, figured, p + (100 - p) * p / 100, 100 - had,
            far <= 2 * more ? 100 : (100 - had) / 2};
        int[] lasts = {takes, takes, takes + more / 3, 2 * takes, takes, takes + 1};
        for (int kind = 0; kind < 6; kind++) {
            check.due("LIKELY of KIND " + kind + ", " + had + ", " + more, of[kind].told(i, 5, 3), likely[kind]);
            check.due("TAKES of KIND " + kind + ", " + takes + ", " + more, of[kind].told(i, 5, 4), lasts[kind]);
        }
    }

    /** 100 at most, FAR no more than 2 times MORE, TAKES more: just below, just at, just above. */
    private static void kindsAtTheirBounds() {
        int[][] rowed = {{72, 99}, {73, 100}, {74, 100}, {100, 100}};
        for (int[] one : rowed) {
            ThroughATrumpet x = by("had " + one[0] + ";chalk 0;takes 1;");
            x.say(1, 0, 9);
            check.due("ROWED, 27 more than " + one[0], x.told(0, 0, 3), one[1]);
        }
        int[][] figured = {{0, 1}, {88, 96}, {89, 98}, {90, 100}, {91, 100}, {100, 100}};
        for (int[] one : figured) {
            ThroughATrumpet x = by("had " + one[0] + ";chalk 0;takes 1;");
            x.say(2, 0, 1);
            check.due("FIGURED, twice, 10 more than " + one[0], x.told(0, 0, 3), one[1]);
        }
        int[][] back = {{0, 0}, {1, 1}, {10, 19}, {50, 75}, {99, 99}, {100, 100}};
        for (int[] one : back) {
            ThroughATrumpet x = by("had " + one[0] + ";chalk 0;takes 6;");
            x.say(3, 0, 0);
            check.due("BACK of " + one[0], x.told(0, 0, 3), one[1]);
            check.due("BACK takes twice 6", x.told(0, 0, 4), 12);
        }
        ThroughATrumpet f = by("had 100;chalk 33;takes 6;");
        f.set(1, 0);
        for (int far = 0; far <= 20; far++) {
            f = by("had 100;chalk 33;takes 6;");
            f.set(1, 0);
            f.set(0, far);
            for (int more = 0; more < 8; more++) {
                f.say(5, 0, more + 2);
                check.due("FLAGGED, FAR " + far + ", MORE " + (more + 2), f.told(more, 0, 3), far <= 2 * (more + 2) ? 100 : 16);
            }
            check.due("FLAGGED takes 1 more than 6", f.told(0, 0, 4), 7);
        }
        int[] longer = {6, 6, 6, 7, 7, 7, 8, 8, 8, 9};
        for (int more = 0; more <= 9; more++) {
            ThroughATrumpet x = by("had 100;chalk 33;takes 9;");
            x.say(2, 0, more);
            check.due("FIGURED takes MORE by 3 more than 6", x.told(0, 0, 4), longer[more]);
        }
    }

    private static void run() {
        ThroughATrumpet x = new ThroughATrumpet();
        check.due("run(-1)", x.run(-1), NO);
        check.due("run(8)", x.run(8), NO);
        for (int what = 0; what < 8; what++) {
            check.due("no SAYINGS", x.run(what), 0);
        }
        x = by("had 33;chalk 70;takes 4;");
        x.say(0, 0, 0);
        x.say(0, 0, 0);
        check.due("33 of 100", x.run(2), 1000000 - 448900);
        x.say(0, 1, 0);
        check.due("two end in time, in 11 MINUTES", x.run(1), 2);
        check.due("the third isn't had", x.run(3), 0);
        x.set(5, 12);
        check.due("three do in 12", x.run(1), 3);
        check.due("the third is had", x.run(3), 330000);
        check.due("all of it", x.run(0), 9L * 551100 + 7L * 330000);
        x.want(0, 99);
        check.due("by what it is WORTH", x.run(0), 99L * 551100 + 7L * 330000);
        check.due("THING 5", x.run(7), 0);
        // cut each time: 1000000 by 67, three times, is 300763; by the fourth 201511.21
        ThroughATrumpet y = by("had 33;chalk 70;takes 1;");
        for (int k = 0; k < 5; k++) {
            y.say(0, 5, 0);
        }
        check.due("cut, each time", y.run(7), 1000000 - 135012);
        ThroughATrumpet z = by("had 99;chalk 70;takes 1;");
        for (int k = 0; k < 5; k++) {
            z.say(0, 5, 0);
        }
        check.due("99 five times", z.run(7), 1000000);
    }

    /** No later than all MINUTES end: in the last MINUTE, one too late, and not begun at all. */
    private static void endsInTime() {
        for (int minutes = 1; minutes <= 12; minutes++) {
            ThroughATrumpet x = by("had 40;chalk 0;takes 6;");
            x.set(5, minutes);
            x.say(0, 0, 0);
            x.say(0, 1, 0);
            x.say(0, 2, 0);
            check.due("ends in time of " + minutes, x.run(1), minutes / 6);
            check.due("the first", x.run(2), minutes < 6 ? 0 : 400000);
            check.due("the second", x.run(3), minutes < 12 ? 0 : 400000);
            check.due("the third", x.run(4), 0);
            check.due("the second begins, of " + minutes, x.minute(1, 0), minutes > 6 ? 6 : -1);
            check.due("the third never does", x.minute(2, 0), -1);
        }
        ThroughATrumpet y = by("had 40;chalk 0;takes 6;");
        y.set(5, 12);
        y.say(3, 0, 0);
        y.say(0, 1, 0);
        check.due("one that takes all 12", y.minute(0, 1), 64);
        check.due("none begins behind it", y.minute(1, 0), -1);
        y.set(5, 11);
        check.due("12 of 11 do not end in time", y.minute(0, 1), 0);
        check.due("but it begins", y.minute(0, 0), 0);
        check.due("none ends", y.run(1), 0);
        // SAYINGS in a row of 12 MINUTES: 1 begins in 0, 2 in 6, 0 in the last one
        ThroughATrumpet z = by("had minute*8+word;chalk 0;takes 1+5*(word=1)+4*(word=2);");
        z.set(5, 12);
        z.say(0, 0, 0);
        z.say(0, 1, 0);
        z.say(0, 2, 0);
        z.sheet(0, 0, 3);
        z.cell(0, 0, 1);
        z.cell(0, 1, 2);
        check.due("in the last MINUTE", z.judge(0), 9 * 880000L + 7 * 10000L + 5 * 500000L);
        for (int t = 0; t < 8; t++) {
            ThroughATrumpet w = by("had 100;chalk 0;takes 1;");
            w.set(5, 7);
            for (int i = 0; i < 8; i++) {
                w.say(0, 5, 0);
            }
            check.due("eight in 7: " + t, w.minute(t, 0), t < 7 ? t : -1);
            check.due("seven end", w.run(1), 7);
            check.due("missed is 0 from the first on", w.run(7), 1000000);
        }
    }

    private static void minute() {
        ThroughATrumpet x = by("had 10 + minute;chalk 70;takes 4;");
        check.due("none yet", x.minute(0, 0), -5);
        for (int k = 0; k < 5; k++) {
            x.say(0, k, 0);
        }
        int[] begins = {0, 4, 8, -1, -1};
        int[] had = {10, 14, 0, 0, 0};
        for (int i = 0; i < 5; i++) {
            check.due("begins", x.minute(i, 0), begins[i]);
            check.due("is had", x.minute(i, 1), had[i]);
        }
        x.set(5, 8);
        check.due("in 8, the third doesn't begin", x.minute(2, 0), -1);
        x.set(5, 12);
        check.due("in 12, the third is had", x.minute(2, 1), 18);
        check.due("in 12, the fourth would begin behind the last", x.minute(3, 0), -1);
        x.set(5, 11);
        check.due("in 11 again, the third isn't had", x.minute(2, 1), 0);
        check.due("in 11 again, the third begins", x.minute(2, 0), 8);
        x.set(5, 8);
        check.due("in 8 again, it doesn't", x.minute(2, 0), -1);
        x.set(5, 12);
        check.due("minute(0, 2)", x.minute(0, 2), -7);
        check.due("minute(0, -1)", x.minute(0, -1), -7);
        check.due("minute(5, 0)", x.minute(5, 0), -5);
        check.due("minute(-1, 0)", x.minute(-1, 0), -5);
        check.due("-5 ahead of -7", x.minute(5, 2), -5);
    }

    private static void judge() {
        ThroughATrumpet x = new ThroughATrumpet();
        check.due("judge(-1)", x.judge(-1), NO);
        check.due("judge(4)", x.judge(4), NO);
        check.due("none there", x.judge(0), NO);
        x.sheet(0, 0, 0);
        check.due("a ROW of none", x.judge(0), 0);
        x.sheet(1, 1, 2);
        check.due("too many", x.judge(1), NO);
        x.say(0, 0, 0);
        x.say(0, 1, 0);
        check.due("one twice", x.judge(1), NO);
        x.cell(1, 0, 1);
        // MINUTE 0: 30, MINUTE 1: 38
        check.due("1, then 0", x.judge(1), 300000L * 7 + 380000L * 9);
        check.due("THE ROW is another one", x.run(0), 300000L * 9 + 380000L * 7);
        x.cell(1, 0, 2);
        check.due("no such SAYING", x.judge(1), NO);
        x.cell(1, 0, -1);
        check.due("below 0", x.judge(1), NO);
        x.cell(1, 0, 65537);
        check.due("a short of 65537 is 1", x.judge(1), 300000L * 7 + 380000L * 9);
        x.sheet(2, 2, 1);
        check.due("only SAYING 0", x.judge(2), 300000L * 9);
        x.cell(2, 0, 65537);
        check.due("an int of 65537 is no SAYING", x.judge(2), NO);
        x.sheet(3, 2, 3);
        x.cell(3, 1, 1);
        x.cell(3, 2, 2);
        check.due("three of two are too many", x.judge(3), NO);
    }

    /** Rows of one to eight, on each SHEET; one of nine; each SAYING twice, each number just outside. */
    private static void judgeAtItsBounds() {
        for (int s = 0; s < 4; s++) {
            ThroughATrumpet x = by("had 50;chalk 0;takes 1;");
            for (int i = 0; i < 8; i++) {
                x.say(0, i % 6, 0);
            }
            for (int n = 0; n <= 8; n++) {
                x.sheet(s, s % 3, n);
                for (int i = 0; i < n; i++) {
                    x.cell(s, i, i);
                }
                long[] worth = {0, 9, 16, 21, 24, 26, 27, 31, 35};
                // SAYINGS 6 and 7 are of THINGS 0 and 1 again: half of the half
                long due = n <= 6 ? worth[n] * 500000 : 27 * 500000L + 9 * 250000L + (n == 8 ? 7 * 250000L : 0);
                check.due("a row of " + n + " on SHEET " + s, x.judge(s), due);
            }
            for (int i = 0; i < 8; i++) {
                x.cell(s, 7, i);
                check.due("SAYING " + i + " at the last place", x.judge(s) == NO ? 1 : 0, i == 7 ? 0 : 1);
            }
            x.cell(s, 7, 8);
            check.due("SAYING 8", x.judge(s), NO);
            x.cell(s, 7, -1);
            check.due("SAYING -1", x.judge(s), NO);
            x.cell(s, 7, 7);
            check.holds("a row of all again", x.judge(s) > 0);
            x.sheet(s, s % 3, 9);
            for (int i = 0; i < 9; i++) {
                x.cell(s, i, i);
            }
            check.due("nine", x.judge(s), NO);
            x.sheet(s, s % 3, 40);
            check.due("forty", x.judge(s), NO);
            x.sheet(s, -1, 3);
            check.due("missing again", x.judge(s), NO);
        }
    }

    private static void best() {
        ThroughATrumpet x = new ThroughATrumpet();
        check.due("best(-1)", x.best(-1), NO);
        check.due("best(3)", x.best(3), NO);
        for (int what = 0; what < 3; what++) {
            check.due("without any", x.best(what), 0);
        }
        x.say(0, 5, 0);
        check.due("one", x.best(0), 1);
        x.say(0, 0, 0);
        check.due("the one that is worth more later", x.best(0), 12);
        x.say(0, 3, 0);
        // 30 38 46: WORTH 1, 9, 3
        check.due("three", x.best(0), 132);
        check.due("its WORTH", x.best(1), 300000L + 3 * 380000L + 9 * 460000L);
        check.due("above THE ROW's", x.best(2), (3 * 380000L + 9 * 460000L) - (9 * 380000L + 3 * 460000L));
        check.due("THE ROW is as it was", x.minute(1, 0), 1);
        ThroughATrumpet y = by("had 50;chalk 50;takes 1;");
        for (int n = 1; n <= 8; n++) {
            y.say(0, n % 6, 0);
            check.due("of like ones the first", y.best(0), 12345678L / (long) Math.pow(10, 8 - n));
            check.due("nothing above", y.best(2), 0);
        }
        bestByExchanges();
    }

    /** All orders of 1 to 5 SAYINGS: each of them is the best one by a law of its own. */
    private static void bestOfFew() {
        for (int n = 1; n <= 5; n++) {
            int orders = 1;
            for (int k = 2; k <= n; k++) {
                orders *= k;
            }
            for (int which = 0; which < orders; which++) {
                int[] things = order(n, which);
                ThroughATrumpet x = by("had 100 * (minute = word);chalk 0;takes 1;");
                long[] digits = new long[n];
                for (int i = 0; i < n; i++) {
                    x.say(0, things[i], 0);
                    digits[things[i]] = i + 1;
                }
                long due = 0;
                for (long digit : digits) {
                    due = 10 * due + digit;
                }
                check.due("the best of " + n, x.best(0), due);
            }
        }
    }

    /** Order number which of 0 .. n - 1, by numbers. */
    private static int[] order(int n, int which) {
        java.util.List<Integer> left = new java.util.ArrayList<>();
        for (int k = 0; k < n; k++) {
            left.add(k);
        }
        int[] order = new int[n];
        int rest = which;
        for (int k = 0; k < n; k++) {
            int orders = 1;
            for (int i = 2; i < n - k; i++) {
                orders *= i;
            }
            order[k] = left.remove(rest / orders);
            rest %= orders;
        }
        return order;
    }

    /** The best order can't be reached by exchanges that each are worth more: of 5 it is found, of 6 it isn't looked for. */
    private static void bestOfFiveAndSix() {
        ThroughATrumpet x = by("had 50*(minute=word)+60*(minute=word+1)+60*(word=2 and minute=0);chalk 0;takes 1;");
        for (int t = 0; t < 6; t++) {
            x.want(t, 1);
        }
        for (int t = 0; t < 5; t++) {
            x.say(0, t, 0);
        }
        check.due("five: of all orders", x.best(0), 31245);
        check.due("five: its WORTH", x.best(1), 2800000);
        check.due("five: above THE ROW's", x.best(2), 300000);
        x.say(0, 5, 0);
        check.due("six: by exchanges", x.best(0), 123456);
        check.due("six: its WORTH", x.best(1), 3000000);
        check.due("six: not above THE ROW's", x.best(2), 0);
        x.sheet(0, 0, 6);
        int[] better = {2, 0, 1, 3, 4, 5};
        for (int i = 0; i < 6; i++) {
            x.cell(0, i, better[i]);
        }
        check.due("six: though another order is worth more", x.judge(0), 3300000);
        ThroughATrumpet y = by("had 100*(minute=0);chalk 0;takes 1;");
        ThroughATrumpet z = by("had 100*(minute=5);chalk 0;takes 1;");
        for (int i = 0; i < 6; i++) {
            y.want(i, i == 0 ? 0 : 4);
            z.want(i, i == 5 ? 0 : 4);
            y.say(0, i, 0);
            z.say(0, i, 0);
        }
        check.due("of like exchanges the first by the other place", y.best(0), 213456);
        check.due("of like exchanges the first by the lesser place", z.best(0), 623451);
    }

    /** Six, all of which can't be said: one exchange at a time, always the one that is worth most. */
    private static void bestByExchanges() {
        ThroughATrumpet x = by("had 10 * minute + 10;chalk 0;takes 1;");
        for (int t = 0; t < 6; t++) {
            x.say(0, t, 0);
        }
        // 9 7 5 3 2 1 by 10 .. 60: all turned round is worth most, and exchanges lead there
        check.due("turned round", x.best(0), 654321);
        check.due("its WORTH", x.best(1), 10000L * (10 + 2 * 20 + 3 * 30 + 5 * 40 + 7 * 50 + 9 * 60));
        ThroughATrumpet y = by("had 100;chalk 0;takes 6 - 5 * (word < 5);");
        y.set(5, 5);
        y.say(0, 5, 0);
        for (int t = 0; t < 5; t++) {
            y.say(0, t, 0);
        }
        y.want(5, 99);
        // the long one can't end in time; it goes to the last place by one exchange with SAYING 5
        check.due("the long one last", y.best(0), 623451);
        check.due("all others are had", y.best(1), 1000000L * (9 + 7 + 5 + 3 + 2));
        check.due("above none at all", y.best(2), 1000000L * (9 + 7 + 5 + 3 + 2));
    }

    private static void side() {
        ThroughATrumpet x = new ThroughATrumpet();
        check.due("without any", x.side(), 0);
        x.say(0, 0, 0);
        check.due("nearest", x.side(), 0);
        check.due("NEAR is as it was", x.count(0), 4);
        check.due("THE ROW is as it was", x.run(2), 300000);
        ThroughATrumpet y = by("had far * (far < 13);chalk 0;takes 1;");
        y.set(1, 0);
        y.say(0, 0, 0);
        check.due("12 is worth most", y.side(), 12);
        ThroughATrumpet z = by("had (16 < far) * 9;chalk 0;takes 1;");
        z.set(1, 0);
        z.say(0, 0, 0);
        check.due("of like ones the least", z.side(), 17);
        ThroughATrumpet w = by("had far;chalk 0;takes 1;");
        w.say(0, 0, 0);
        check.due("20 at most", w.side(), 20);
    }

    private static void leave() {
        ThroughATrumpet x = new ThroughATrumpet();
        check.due("without any", x.leave(), -1);
        x.say(0, 0, 0);
        check.due("it would be missed", x.leave(), -1);
        x.want(0, 0);
        check.due("one that is worth nothing", x.leave(), 0);
        x.say(0, 1, 0);
        // without the first one the second comes in MINUTE 0, and that is worth less
        check.due("it brings the second one nearer", x.leave(), -1);
        ThroughATrumpet y = by("had 50;chalk 50;takes 1;");
        y.say(0, 0, 0);
        y.say(0, 1, 0);
        y.say(0, 2, 0);
        y.want(1, 0);
        y.want(2, 0);
        check.due("no less, of like ones the first", y.leave(), 1);
        ThroughATrumpet z = by("had 50;chalk 0;takes 1 + 5 * (word = 2);");
        z.set(5, 6);
        z.say(0, 2, 0);
        z.say(0, 0, 0);
        z.say(0, 1, 0);
        check.due("one that keeps all others from being said", z.leave(), 0);
        ThroughATrumpet w = by("had 50;chalk 0;takes 1;");
        for (int i = 0; i < 8; i++) {
            w.say(0, i % 6, 0);
        }
        check.due("of eight, each is worth something", w.leave(), -1);
        w.want(1, 0);
        check.due("SAYINGS 1 and 7 are worth nothing: the first", w.leave(), 1);
        w.want(1, 7);
        w.set(5, 7);
        // without SAYING 5 the last one is had as well, and that is more than without any other
        check.due("the one that makes room", w.leave(), 5);
        ThroughATrumpet v = by("had 10 + 5 * minute;chalk 0;takes 1;");
        v.set(5, 7);
        for (int i = 0; i < 8; i++) {
            v.say(0, i % 6, 0);
        }
        v.want(1, 0);
        // without any other one those behind it come earlier, and are less likely had
        check.due("the last, which doesn't begin: it is worth as much without it", v.leave(), 7);
    }
}

/** Promises 10 to 17: say, told, run, minute, judge, best, side, leave. */
public final class SayingsTest {
    private static final Check check = new Check("SayingsTest");
    private static final long NO = ThroughATrumpet.NO;

    public static void main(String[] args) {
        say();
        told();
        kinds();
        run();
        minute();
        judge();
        best();
        side();
        leave();
        check.end();
    }

    /** An object whose law is the one told. */
    private static ThroughATrumpet by(String law) {
        ThroughATrumpet x = new ThroughATrumpet();
        check.due("a law: " + law, Tapes.read(x, law), 1);
        x.force(1);
        return x;
    }

    private static void say() {
        ThroughATrumpet x = new ThroughATrumpet();
        int[][] bad = {{-1, 0, 0}, {6, 0, 0}, {0, -1, 0}, {0, 6, 0}, {0, 0, -1}, {0, 0, 10}};
        for (int[] b : bad) {
            check.due("say, a number that isn't as told", x.say(b[0], b[1], b[2]), ThroughATrumpet.BAD);
        }
        for (int i = 0; i < 8; i++) {
            check.due("say " + i, x.say(i % 6, (i + 2) % 6, i + 1), i);
        }
        check.due("a ninth", x.say(0, 0, 0), ThroughATrumpet.FULL);
        check.due("BAD ahead of FULL", x.say(0, 0, 10), ThroughATrumpet.BAD);
        check.due("eight", x.count(6), 8);
        for (int i = 0; i < 8; i++) {
            check.due("KIND", x.told(i, 0, 0), i % 6);
            check.due("THING", x.told(i, 0, 1), (i + 2) % 6);
            check.due("MORE", x.told(i, 0, 2), i + 1);
        }
    }

    private static void told() {
        ThroughATrumpet x = new ThroughATrumpet();
        check.due("none yet", x.told(0, 0, 0), -5);
        x.say(0, 1, 2);
        check.due("told(1, 0, 0)", x.told(1, 0, 0), -5);
        check.due("told(-1, 0, 0)", x.told(-1, 0, 0), -5);
        check.due("told(0, 11, 3)", x.told(0, 11, 3), -7);
        check.due("told(0, 11, 0): a MINUTE that isn't, though it doesn't matter", x.told(0, 11, 0), -7);
        check.due("told(0, -1, 3)", x.told(0, -1, 3), -7);
        check.due("told(0, 0, 6)", x.told(0, 0, 6), -7);
        check.due("told(0, 0, -1)", x.told(0, 0, -1), -7);
        check.due("-5 ahead of -7", x.told(1, 11, 6), -5);
        int[] mouth = {1, 1, 1, 1, 0, 0};
        for (int kind = 0; kind < 6; kind++) {
            int i = x.say(kind, 0, 0);
            check.due("by mouth, KIND " + kind, x.told(i, 4, 5), mouth[kind]);
        }
    }

    private static void kinds() {
        int[] mores = {0, 1, 2, 3, 5, 6, 8, 9};
        for (int had = 0; had <= 100; had += 10) {
            for (int takes = 1; takes <= 6; takes++) {
                ThroughATrumpet[] of = new ThroughATrumpet[6];
                for (int kind = 0; kind < 6; kind++) {
                    of[kind] = by("had " + had + ";chalk " + (100 - had) + ";takes " + takes + ";");
                    for (int more : mores) {
                        of[kind].say(kind, 3, more);
                    }
                }
                for (int i = 0; i < mores.length; i++) {
                    kindsOf(of, i, had, takes, mores[i]);
                }
            }
        }
        ThroughATrumpet x = new ThroughATrumpet();
        x.say(5, 0, 7);
        check.due("FLAGGED, FAR 14 is 2 times 7", x.told(0, 0, 3), 100);
        x.say(5, 0, 6);
        check.due("FLAGGED, FAR 14 is more than 12", x.told(1, 0, 3), 10);
        check.due("FLAGGED, FAR 12", x.told(1, 1, 3), 100);
        x.set(0, 5);
        check.due("FLAGGED, FAR 15: half of 15, cut", x.told(0, 0, 3), 7);
        ThroughATrumpet y = by("had word*10+minute;chalk word*7+minute;takes word-2;");
        y.say(0, 4, 0);
        y.say(4, 5, 0);
        check.due("had of its THING and MINUTE", y.told(0, 9, 3), 49);
        check.due("chalk of its THING and MINUTE", y.told(1, 9, 3), 44);
        check.due("takes of its THING", y.told(0, 9, 4), 2);
        check.due("takes of its THING", y.told(1, 9, 4), 3);
    }

    private static void kindsOf(ThroughATrumpet[] of, int i, int had, int takes, int more) {
        int p = Math.min(100, had + 3 * more);
        int figured = 100;
        for (int k = 0; k < more + 1; k++) {
            figured = figured * Math.min(100, had + 10) / 100;
        }
        int far = 4;
        int[] likely = {had, p, figured, p + (100 - p) * p / 100, 100 - had,
            far <= 2 * more ? 100 : (100 - had) / 2};
        int[] lasts = {takes, takes, takes + more / 3, 2 * takes, takes, takes + 1};
        for (int kind = 0; kind < 6; kind++) {
            check.due("LIKELY of KIND " + kind + ", " + had + ", " + more, of[kind].told(i, 5, 3), likely[kind]);
            check.due("TAKES of KIND " + kind + ", " + takes + ", " + more, of[kind].told(i, 5, 4), lasts[kind]);
        }
    }

    private static void run() {
        ThroughATrumpet x = new ThroughATrumpet();
        check.due("run(-1)", x.run(-1), NO);
        check.due("run(8)", x.run(8), NO);
        for (int what = 0; what < 8; what++) {
            check.due("no SAYINGS", x.run(what), 0);
        }
        x = by("had 33;chalk 70;takes 4;");
        x.say(0, 0, 0);
        x.say(0, 0, 0);
        check.due("33 of 100", x.run(2), 1000000 - 448900);
        x.say(0, 1, 0);
        check.due("two end in time, in 11 MINUTES", x.run(1), 2);
        check.due("the third isn't had", x.run(3), 0);
        x.set(5, 12);
        check.due("three do in 12", x.run(1), 3);
        check.due("the third is had", x.run(3), 330000);
        check.due("all of it", x.run(0), 9L * 551100 + 7L * 330000);
        x.want(0, 99);
        check.due("by what it is WORTH", x.run(0), 99L * 551100 + 7L * 330000);
        check.due("THING 5", x.run(7), 0);
        // cut each time: 1000000 by 67, three times, is 300763; by the fourth 201511.21
        ThroughATrumpet y = by("had 33;chalk 70;takes 1;");
        for (int k = 0; k < 5; k++) {
            y.say(0, 5, 0);
        }
        check.due("cut, each time", y.run(7), 1000000 - 135012);
        ThroughATrumpet z = by("had 99;chalk 70;takes 1;");
        for (int k = 0; k < 5; k++) {
            z.say(0, 5, 0);
        }
        check.due("99 five times", z.run(7), 1000000);
    }

    private static void minute() {
        ThroughATrumpet x = by("had 10 + minute;chalk 70;takes 4;");
        check.due("none yet", x.minute(0, 0), -5);
        for (int k = 0; k < 5; k++) {
            x.say(0, k, 0);
        }
        int[] begins = {0, 4, 8, -1, -1};
        int[] had = {10, 14, 0, 0, 0};
        for (int i = 0; i < 5; i++) {
            check.due("begins", x.minute(i, 0), begins[i]);
            check.due("is had", x.minute(i, 1), had[i]);
        }
        x.set(5, 8);
        check.due("in 8, the third doesn't begin", x.minute(2, 0), -1);
        x.set(5, 12);
        check.due("in 12, the third is had", x.minute(2, 1), 18);
        check.due("in 12, the fourth would begin behind the last", x.minute(3, 0), -1);
        check.due("minute(0, 2)", x.minute(0, 2), -7);
        check.due("minute(0, -1)", x.minute(0, -1), -7);
        check.due("minute(5, 0)", x.minute(5, 0), -5);
        check.due("minute(-1, 0)", x.minute(-1, 0), -5);
        check.due("-5 ahead of -7", x.minute(5, 2), -5);
    }

    private static void judge() {
        ThroughATrumpet x = new ThroughATrumpet();
        check.due("judge(-1)", x.judge(-1), NO);
        check.due("judge(4)", x.judge(4), NO);
        check.due("none there", x.judge(0), NO);
        x.sheet(0, 0, 0);
        check.due("a ROW of none", x.judge(0), 0);
        x.sheet(1, 1, 2);
        check.due("too many", x.judge(1), NO);
        x.say(0, 0, 0);
        x.say(0, 1, 0);
        check.due("one twice", x.judge(1), NO);
        x.cell(1, 0, 1);
        // MINUTE 0: 30, MINUTE 1: 38
        check.due("1, then 0", x.judge(1), 300000L * 7 + 380000L * 9);
        check.due("THE ROW is another one", x.run(0), 300000L * 9 + 380000L * 7);
        x.cell(1, 0, 2);
        check.due("no such SAYING", x.judge(1), NO);
        x.cell(1, 0, -1);
        check.due("below 0", x.judge(1), NO);
        x.cell(1, 0, 65537);
        check.due("a short of 65537 is 1", x.judge(1), 300000L * 7 + 380000L * 9);
        x.sheet(2, 2, 1);
        check.due("only SAYING 0", x.judge(2), 300000L * 9);
        x.cell(2, 0, 65537);
        check.due("an int of 65537 is no SAYING", x.judge(2), NO);
        x.sheet(3, 2, 3);
        x.cell(3, 1, 1);
        x.cell(3, 2, 2);
        check.due("three of two are too many", x.judge(3), NO);
    }

    private static void best() {
        ThroughATrumpet x = new ThroughATrumpet();
        check.due("best(-1)", x.best(-1), NO);
        check.due("best(3)", x.best(3), NO);
        for (int what = 0; what < 3; what++) {
            check.due("without any", x.best(what), 0);
        }
        x.say(0, 5, 0);
        check.due("one", x.best(0), 1);
        x.say(0, 0, 0);
        check.due("the one that is worth more later", x.best(0), 12);
        x.say(0, 3, 0);
        // 30 38 46: WORTH 1, 9, 3
        check.due("three", x.best(0), 132);
        check.due("its WORTH", x.best(1), 300000L + 3 * 380000L + 9 * 460000L);
        check.due("above THE ROW's", x.best(2), (3 * 380000L + 9 * 460000L) - (9 * 380000L + 3 * 460000L));
        check.due("THE ROW is as it was", x.minute(1, 0), 1);
        ThroughATrumpet y = by("had 50;chalk 50;takes 1;");
        for (int n = 1; n <= 8; n++) {
            y.say(0, n % 6, 0);
            check.due("of like ones the first", y.best(0), 12345678L / (long) Math.pow(10, 8 - n));
            check.due("nothing above", y.best(2), 0);
        }
        bestByExchanges();
    }

    /** Six, all of which can't be said: one exchange at a time, always the one that is worth most. */
    private static void bestByExchanges() {
        ThroughATrumpet x = by("had 10 * minute + 10;chalk 0;takes 1;");
        for (int t = 0; t < 6; t++) {
            x.say(0, t, 0);
        }
        // 9 7 5 3 2 1 by 10 .. 60: all turned round is worth most, and exchanges lead there
        check.due("turned round", x.best(0), 654321);
        check.due("its WORTH", x.best(1), 10000L * (10 + 2 * 20 + 3 * 30 + 5 * 40 + 7 * 50 + 9 * 60));
        ThroughATrumpet y = by("had 100;chalk 0;takes 6 - 5 * (word < 5);");
        y.set(5, 5);
        y.say(0, 5, 0);
        for (int t = 0; t < 5; t++) {
            y.say(0, t, 0);
        }
        y.want(5, 99);
        // the long one can't end in time; it goes to the last place by one exchange with SAYING 5
        check.due("the long one last", y.best(0), 623451);
        check.due("all others are had", y.best(1), 1000000L * (9 + 7 + 5 + 3 + 2));
        check.due("above none at all", y.best(2), 1000000L * (9 + 7 + 5 + 3 + 2));
    }

    private static void side() {
        ThroughATrumpet x = new ThroughATrumpet();
        check.due("without any", x.side(), 0);
        x.say(0, 0, 0);
        check.due("nearest", x.side(), 0);
        check.due("NEAR is as it was", x.count(0), 4);
        check.due("THE ROW is as it was", x.run(2), 300000);
        ThroughATrumpet y = by("had far * (far < 13);chalk 0;takes 1;");
        y.set(1, 0);
        y.say(0, 0, 0);
        check.due("12 is worth most", y.side(), 12);
        ThroughATrumpet z = by("had (16 < far) * 9;chalk 0;takes 1;");
        z.set(1, 0);
        z.say(0, 0, 0);
        check.due("of like ones the least", z.side(), 17);
        ThroughATrumpet w = by("had far;chalk 0;takes 1;");
        w.say(0, 0, 0);
        check.due("20 at most", w.side(), 20);
    }

    private static void leave() {
        ThroughATrumpet x = new ThroughATrumpet();
        check.due("without any", x.leave(), -1);
        x.say(0, 0, 0);
        check.due("it would be missed", x.leave(), -1);
        x.want(0, 0);
        check.due("one that is worth nothing", x.leave(), 0);
        x.say(0, 1, 0);
        // without the first one the second comes in MINUTE 0, and that is worth less
        check.due("it brings the second one nearer", x.leave(), -1);
        ThroughATrumpet y = by("had 50;chalk 50;takes 1;");
        y.say(0, 0, 0);
        y.say(0, 1, 0);
        y.say(0, 2, 0);
        y.want(1, 0);
        y.want(2, 0);
        check.due("no less, of like ones the first", y.leave(), 1);
        ThroughATrumpet z = by("had 50;chalk 0;takes 1 + 5 * (word = 2);");
        z.set(5, 6);
        z.say(0, 2, 0);
        z.say(0, 0, 0);
        z.say(0, 1, 0);
        check.due("one that keeps all others from being said", z.leave(), 0);
    }
}

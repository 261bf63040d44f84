/** Promises 1 to 5: a new object, set, want, count, pass. */
public final class PassTest {
    private static final Check check = new Check("PassTest");

    public static void main(String[] args) {
        newObject();
        set();
        want();
        count();
        pass();
        check.end();
    }

    private static void newObject() {
        ThroughATrumpet x = new ThroughATrumpet();
        int[] first = {4, 2, 0, 3, 0, 11, 0, 0, 0, 0, 1, 0, 0};
        for (int what = 0; what < first.length; what++) {
            check.due("new: count(" + what + ")", x.count(what), first[what]);
        }
        int[] worth = {9, 7, 5, 3, 2, 1};
        for (int t = 0; t < 6; t++) {
            check.due("new: want(" + t + ", 0)", x.want(t, 0), worth[t]);
        }
        for (int i = 0; i < 14; i++) {
            check.due("new: taken(" + i + ", 0)", x.taken(i, 0), -11);
        }
        for (int s = 0; s < 4; s++) {
            check.due("new: cell(" + s + ", 0, 0)", x.cell(s, 0, 0), -11);
        }
        check.due("new: printed(0, 0)", x.printed(0, 0), -5);
        check.due("new: told(0, 0, 0)", x.told(0, 0, 0), -5);
        check.due("new: news(0, 0, 1)", x.news(0, 0, 1), -1);
        check.due("new: back()", x.back(), ThroughATrumpet.STATE);
    }

    private static void set() {
        int[] least = {0, 0, -9, 0, 0, 1};
        int[] most = {20, 9, 9, 9, 4095, 12};
        int[] first = {4, 2, 0, 3, 0, 11};
        for (int what = 0; what < 6; what++) {
            ThroughATrumpet x = new ThroughATrumpet();
            check.due("set below, " + what, x.set(what, least[what] - 1), ThroughATrumpet.BAD);
            check.due("set above, " + what, x.set(what, most[what] + 1), ThroughATrumpet.BAD);
            check.due("set far below, " + what, x.set(what, Integer.MIN_VALUE), ThroughATrumpet.BAD);
            check.due("set far above, " + what, x.set(what, Integer.MAX_VALUE), ThroughATrumpet.BAD);
            check.due("set kept, " + what, x.count(what), first[what]);
            check.due("set least, " + what, x.set(what, least[what]), first[what]);
            check.due("set most, " + what, x.set(what, most[what]), least[what]);
            check.due("set is most, " + what, x.count(what), most[what]);
            for (int other = 0; other < 6; other++) {
                if (other != what) {
                    check.due("set leaves others", x.count(other), first[other]);
                }
            }
        }
        ThroughATrumpet x = new ThroughATrumpet();
        check.due("set(6, 0)", x.set(6, 0), ThroughATrumpet.NONE);
        check.due("set(-1, 0)", x.set(-1, 0), ThroughATrumpet.NONE);
        check.due("set(6, 99999): what is told first", x.set(6, 99999), ThroughATrumpet.NONE);
        check.due("set(5, 3)", x.set(5, 3), 11);
        check.due("a sail in a MINUTE that isn't there now", x.set(4, 2048), 0);
    }

    private static void want() {
        ThroughATrumpet x = new ThroughATrumpet();
        check.due("want(0, 99)", x.want(0, 99), 9);
        check.due("want(0, 0)", x.want(0, 0), 99);
        check.due("want(0, 100)", x.want(0, 100), ThroughATrumpet.BAD);
        check.due("want(0, -1)", x.want(0, -1), ThroughATrumpet.BAD);
        check.due("want(6, 0)", x.want(6, 0), ThroughATrumpet.NONE);
        check.due("want(-1, 0)", x.want(-1, 0), ThroughATrumpet.NONE);
        check.due("want(6, 100): THING is told first", x.want(6, 100), ThroughATrumpet.NONE);
        check.due("want(0, 5)", x.want(0, 5), 0);
        check.due("want(5, 5)", x.want(5, 5), 1);
    }

    private static void count() {
        ThroughATrumpet x = new ThroughATrumpet();
        check.due("count(13)", x.count(13), ThroughATrumpet.BAD);
        check.due("count(-1)", x.count(-1), ThroughATrumpet.BAD);
        x.set(2, -2);
        check.due("WIND can be -2", x.count(2), -2);
        x.say(0, 0, 0);
        x.word(1, 1);
        x.word(2, 1);
        x.print(0, 0, 0, 0);
        x.print(0, 0, 0, 0);
        x.print(0, 0, 0, 0);
        for (int k = 0; k < 4; k++) {
            x.meet(5, 0, 1);
        }
        Tapes.feed(x, "had 1;chalk 1;takes 1;");
        x.text();
        x.force(1);
        Tapes.feed(x, "had");
        int[] now = {1, 2, 3, 4, 2, 1, 3};
        for (int what = 6; what <= 12; what++) {
            check.due("count(" + what + ")", x.count(what), now[what - 6]);
        }
    }

    private static void pass() {
        ThroughATrumpet x = new ThroughATrumpet();
        int[] far = {14, 12, 10, 8, 6, 4, 6, 8, 10, 12, 14};
        for (int m = 0; m < 11; m++) {
            check.due("pass(" + m + ")", x.pass(m), far[m]);
        }
        check.due("pass(11)", x.pass(11), ThroughATrumpet.BAD);
        check.due("pass(-1)", x.pass(-1), ThroughATrumpet.BAD);
        x.set(5, 12);
        x.set(1, 3);
        x.set(0, 0);
        // half of 3 times 11, 9, 7 .. is cut
        int[] even = {16, 13, 10, 7, 4, 1, 1, 4, 7, 10, 13, 16};
        for (int m = 0; m < 12; m++) {
            check.due("of 12: pass(" + m + ")", x.pass(m), even[m]);
        }
        check.due("of 12: pass(12)", x.pass(12), ThroughATrumpet.BAD);
        x.set(5, 1);
        x.set(0, 20);
        check.due("of 1: pass(0)", x.pass(0), 20);
        check.due("of 1: pass(1)", x.pass(1), ThroughATrumpet.BAD);
        x.set(1, 9);
        check.due("of 1, however QUICK: pass(0)", x.pass(0), 20);
        x.set(5, 12);
        check.due("the furthest, 20 and half of 99, cut", x.pass(0), 69);
        check.due("the furthest, on the other side", x.pass(11), 69);
        check.due("the nearest, half of 9, cut", x.pass(5), 24);
        x.set(1, 0);
        for (int m = 0; m < 12; m++) {
            check.due("not QUICK at all: pass(" + m + ")", x.pass(m), 20);
        }
        x.set(0, 0);
        check.due("no way apart", x.pass(0), 0);
        x.set(5, 2);
        x.set(1, 9);
        check.due("of 2: pass(0)", x.pass(0), 4);
        check.due("of 2: pass(1)", x.pass(1), 4);
        check.due("of 2: pass(2)", x.pass(2), ThroughATrumpet.BAD);
    }
}

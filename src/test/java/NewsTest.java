/** Promises 34 to 40: meet, news, peace, key, drawn, image, back. */
public final class NewsTest {
    private static final Check check = new Check("NewsTest");

    public static void main(String[] args) {
        meet();
        news();
        peace();
        key();
        drawn();
        drawnAtItsBounds();
        imageAndBack();
        imageAtItsBounds();
        check.end();
    }

    private static void meet() {
        ThroughATrumpet x = new ThroughATrumpet();
        int[][] bad = {{-1, 0, 1}, {366, 0, 1}, {0, -1, 1}, {0, 4, 1}, {0, 0, -1}, {0, 0, 4}, {0, 2, 2}};
        for (int[] b : bad) {
            check.due("meet, a number that isn't as told", x.meet(b[0], b[1], b[2]), ThroughATrumpet.BAD);
        }
        check.due("the first", x.meet(7, 0, 1), 0);
        check.due("ahead of it", x.meet(6, 0, 1), ThroughATrumpet.STATE);
        check.due("BAD ahead of STATE", x.meet(6, 0, 0), ThroughATrumpet.BAD);
        check.due("on the same day", x.meet(7, 3, 2), 1);
        for (int m = 2; m < 24; m++) {
            check.due("meet " + m, x.meet(365, 0, 1), m);
        }
        check.due("a 25th", x.meet(365, 0, 1), ThroughATrumpet.FULL);
        check.due("STATE ahead of FULL", x.meet(364, 0, 1), ThroughATrumpet.STATE);
        check.due("BAD ahead of all", x.meet(364, 0, 0), ThroughATrumpet.BAD);
        check.due("24", x.count(9), 24);
        check.due("day 0", new ThroughATrumpet().meet(0, 0, 1), 0);
    }

    /** Day 1: 0 1, day 3: 2 3, day 5: 1 2, then 2 3, day 9: 0 3. */
    private static ThroughATrumpet five() {
        ThroughATrumpet x = new ThroughATrumpet();
        x.meet(1, 0, 1);
        x.meet(3, 2, 3);
        x.meet(5, 1, 2);
        x.meet(5, 2, 3);
        x.meet(9, 0, 3);
        return x;
    }

    private static void news() {
        ThroughATrumpet x = five();
        check.due("it knows itself", x.news(0, 300, 0), 300);
        check.due("on the day itself", x.news(0, 1, 1), 1);
        check.due("two on one day, in turn", x.news(0, 0, 3), 5);
        check.due("too late for the first", x.news(0, 2, 1), -1);
        check.due("by the last", x.news(0, 2, 3), 9);
        check.due("from the other side", x.news(3, 4, 1), -1);
        check.due("from 2", x.news(2, 4, 0), 9);
        check.due("news(4, 0, 0)", x.news(4, 0, 0), -5);
        check.due("news(-1, 0, 0)", x.news(-1, 0, 0), -5);
        check.due("news(0, 0, 4)", x.news(0, 0, 4), -5);
        check.due("news(0, 0, -1)", x.news(0, 0, -1), -5);
        check.due("news(0, 366, 0)", x.news(0, 366, 0), -7);
        check.due("news(0, -1, 0)", x.news(0, -1, 0), -7);
        check.due("-5 ahead of -7", x.news(4, 366, 0), -5);
        // in turn: the same day, but the other way round
        ThroughATrumpet y = new ThroughATrumpet();
        y.meet(5, 2, 3);
        y.meet(5, 1, 2);
        check.due("not by the one ahead", y.news(1, 0, 3), -1);
        check.due("by the one behind", y.news(3, 0, 1), 5);
        ThroughATrumpet full = new ThroughATrumpet();
        for (int m = 0; m < 23; m++) {
            full.meet(m, 0, 1);
        }
        full.meet(365, 1, 2);
        check.due("by the last of 24", full.news(0, 0, 2), 365);
        check.due("all but one", full.peace(0, 0, 365), 3);
        check.due("the last is needed", full.key(0, 0, 2), 23);
        check.due("never", full.news(0, 0, 3), -1);
    }

    private static void peace() {
        ThroughATrumpet x = five();
        check.due("none by the day ahead", x.peace(0, 1, 0), 0);
        check.due("two", x.peace(0, 1, 1), 2);
        check.due("two yet", x.peace(0, 1, 4), 2);
        check.due("all", x.peace(0, 1, 5), 4);
        check.due("on the DAY itself, the last one", x.peace(3, 365, 365), 1);
        check.due("by the DAY ahead of the last one", x.peace(3, 365, 364), 0);
        check.due("on DAY 0", x.peace(0, 0, 0), 1);
        check.due("one", x.peace(1, 6, 365), 1);
        check.due("peace(4, 0, 0)", x.peace(4, 0, 0), -5);
        check.due("peace(-1, 0, 0)", x.peace(-1, 0, 0), -5);
        check.due("peace(0, 366, 0)", x.peace(0, 366, 0), -7);
        check.due("peace(0, -1, 0)", x.peace(0, -1, 0), -7);
        check.due("peace(0, 0, 366)", x.peace(0, 0, 366), -7);
        check.due("peace(0, 0, -1)", x.peace(0, 0, -1), -7);
        check.due("-5 ahead of -7", x.peace(4, 366, 0), -5);
    }

    private static void key() {
        ThroughATrumpet x = five();
        check.due("the first", x.key(0, 0, 3), 0);
        check.due("it knows itself", x.key(0, 0, 0), -1);
        check.due("later without it", x.key(2, 0, 3), 1);
        check.due("never without it", x.key(0, 0, 1), 0);
        check.due("it never does", x.key(1, 6, 3), -1);
        check.due("key(4, 0, 0)", x.key(4, 0, 0), -5);
        check.due("key(-1, 0, 0)", x.key(-1, 0, 0), -5);
        check.due("key(0, 0, 4)", x.key(0, 0, 4), -5);
        check.due("key(0, 0, -1)", x.key(0, 0, -1), -5);
        check.due("key(0, 366, 0)", x.key(0, 366, 0), -7);
        check.due("key(0, -1, 0)", x.key(0, -1, 0), -7);
        check.due("-5 ahead of -7", x.key(0, 366, 4), -5);
        ThroughATrumpet y = new ThroughATrumpet();
        y.meet(5, 0, 1);
        y.meet(5, 1, 0);
        check.due("either would do", y.key(0, 0, 1), -1);
        y.meet(6, 1, 2);
        check.due("the first that is needed", y.key(0, 0, 2), 2);
    }

    private static void drawn() {
        ThroughATrumpet x = new ThroughATrumpet();
        int[][] bad = {{-1, 0}, {100000, 0}, {0, -1}, {0, 3}};
        for (int[] b : bad) {
            check.due("drawn, a number that isn't as told", x.drawn(b[0], b[1]), ThroughATrumpet.BAD);
        }
        for (int what = 0; what < 3; what++) {
            check.due("without any", x.drawn(5, what), 0);
        }
        // by this law all but THING 4 draw: THING 4 is never had, and that draws none
        Tapes.read(x, "had 50 - 50 * (word = 4);chalk 100;takes 1;");
        x.force(1);
        int[] things = {0, 4, 1, 1, 5, 2};
        for (int t : things) {
            x.say(0, t, 0);
        }
        x.say(4, 4, 0);
        for (int seed : new int[] {0, 1, 7, 4711, 99998, 99999}) {
            long lot = seed + 1;
            int sayings = 0;
            int had = 0;
            int[] likely = {50, 0, 50, 50, 50, 50, 100};
            int[] of = {0, 4, 1, 1, 5, 2, 4};
            for (int i = 0; i < 7; i++) {
                if (likely[i] > 0) {
                    lot = Math.floorMod(lot * 48271L, 2147483647L);
                    if (lot % 100 < likely[i]) {
                        sayings |= 1 << i;
                        had |= 1 << of[i];
                    }
                }
            }
            int[] worth = {9, 7, 5, 3, 2, 1};
            int sum = 0;
            for (int t = 0; t < 6; t++) {
                sum += (had >> t & 1) * worth[t];
            }
            check.due("THINGS by " + seed, x.drawn(seed, 0), had);
            check.due("SAYINGS by " + seed, x.drawn(seed, 1), sayings);
            check.due("WORTH by " + seed, x.drawn(seed, 2), sum);
        }
        // 48271 modulo 100 is 71: the first LOT of SEED 0
        ThroughATrumpet y = new ThroughATrumpet();
        Tapes.read(y, "had 71;chalk 72;takes 1;");
        y.force(1);
        y.say(0, 3, 0);
        check.due("71 is not less than 71", y.drawn(0, 1), 0);
        ThroughATrumpet z = new ThroughATrumpet();
        Tapes.read(z, "had 71;chalk 72;takes 6;");
        z.force(1);
        z.say(4, 3, 0);
        z.say(4, 3, 0);
        check.due("71 is less than 72, and what doesn't end in time isn't had", z.drawn(0, 1), 1);
        check.due("its THING", z.drawn(0, 0), 8);
        check.due("its WORTH", z.drawn(0, 2), 3);
    }

    /** LIKELY 0 draws no LOT, 1 draws one, 100 is always had; the first and the last SEED. */
    private static void drawnAtItsBounds() {
        for (int seed : new int[] {0, 1, 28, 99, 2147, 54321, 99998, 99999}) {
            for (int first : new int[] {0, 1, 2, 99, 100}) {
                ThroughATrumpet x = new ThroughATrumpet();
                Tapes.read(x, "had " + first + ";chalk 50;takes 1;");
                x.force(1);
                x.say(0, 0, 0);
                x.say(4, 1, 0);
                long lot = (seed + 1) * 48271L % 2147483647L;
                int due = lot % 100 < first ? 1 : 0;
                if (first > 0) {
                    lot = lot * 48271L % 2147483647L;
                }
                due |= lot % 100 < 50 ? 2 : 0;
                check.due("drawn by " + seed + ", had " + first, x.drawn(seed, 1), due);
                check.due("its THINGS", x.drawn(seed, 0), due);
                check.due("their WORTH", x.drawn(seed, 2), 9 * (due & 1) + 7 * (due >> 1));
            }
        }
        // eight SAYINGS in 7 MINUTES: the last one doesn't begin, and isn't had; all of one THING count once
        ThroughATrumpet y = new ThroughATrumpet();
        Tapes.read(y, "had 100;chalk 50;takes 1;");
        y.force(1);
        y.set(5, 7);
        for (int i = 0; i < 8; i++) {
            y.say(0, 5, 0);
        }
        y.want(5, 99);
        check.due("all but the last", y.drawn(99999, 1), 127);
        check.due("one THING", y.drawn(99999, 0), 32);
        check.due("once", y.drawn(99999, 2), 99);
        y.set(5, 12);
        check.due("all eight", y.drawn(99999, 1), 255);
        for (int t = 0; t < 6; t++) {
            y.want(t, 99);
        }
        ThroughATrumpet z = new ThroughATrumpet();
        Tapes.read(z, "had 100;chalk 50;takes 1;");
        z.force(1);
        for (int t = 0; t < 6; t++) {
            z.say(0, t, 0);
            z.want(t, 99);
        }
        check.due("all THINGS", z.drawn(0, 0), 63);
        check.due("all that they are WORTH", z.drawn(0, 2), 594);
    }

    /** An image with no WORDS, one with all six, one that is taken again. */
    private static void imageAtItsBounds() {
        ThroughATrumpet x = new ThroughATrumpet();
        check.due("of a new object", x.image(), 0);
        check.due("back at once", x.back(), 0);
        for (int w = 0; w < 6; w++) {
            x.word(w, 1);
            x.mistake(w, w, 50 + w);
            x.mistake(0, w, 60 + w);
        }
        check.due("back: all WORDS came since", x.back(), 0);
        for (int w = 0; w < 6; w++) {
            check.due("TAKEN of all as the first stays", x.mistake(0, w, 70 + w), 60 + w);
            check.due("TAKEN of each as itself stays", x.mistake(w, w, 80 + w), w == 0 ? 70 : 50 + w);
        }
        for (int i = 0; i < 8; i++) {
            x.say(0, 0, 0);
        }
        check.due("an image of the full one", x.image(), 8);
        for (int said = 0; said < 6; said++) {
            for (int heard = 0; heard < 6; heard++) {
                x.mistake(said, heard, 99);
            }
        }
        check.due("back of the full one", x.back(), 8);
        for (int said = 0; said < 6; said++) {
            for (int heard = 0; heard < 6; heard++) {
                int due = said == heard ? 80 + said : said == 0 ? 70 + heard : 0;
                check.due("TAKEN of six", x.mistake(said, heard, 98), due);
            }
        }
        check.due("the bounds of THE PASS", x.set(0, 20), 4);
        x.set(1, 9);
        x.set(2, 9);
        x.set(3, 9);
        x.set(4, 4095);
        x.set(5, 12);
        x.image();
        int[] most = {20, 9, 9, 9, 4095, 12};
        int[] least = {0, 0, -9, 0, 0, 1};
        for (int what = 0; what < 6; what++) {
            x.set(what, least[what]);
        }
        x.back();
        for (int what = 0; what < 6; what++) {
            check.due("as in the last IMAGE", x.count(what), most[what]);
        }
    }

    private static void imageAndBack() {
        ThroughATrumpet x = new ThroughATrumpet();
        check.due("there is none", x.back(), ThroughATrumpet.STATE);
        for (int what = 0; what < 6; what++) {
            x.set(what, what + 1);
        }
        x.want(2, 44);
        x.word(1, 1);
        x.word(2, 1);
        x.mistake(0, 1, 7);
        Tapes.read(x, "had 1;chalk 1;takes 1;");
        Tapes.read(x, "had 2;chalk 1;takes 1;");
        x.force(1);
        x.say(0, 0, 0);
        check.due("image()", x.image(), 1);
        for (int what = 0; what < 6; what++) {
            x.set(what, 1);
        }
        x.want(2, 0);
        x.want(0, 50);
        x.mistake(0, 1, 8);
        x.mistake(0, 0, 0);
        x.word(3, 3);
        x.mistake(2, 0, 21);
        x.mistake(0, 2, 22);
        x.mistake(2, 2, 23);
        x.force(2);
        x.say(0, 1, 0);
        x.print(0, 0, 0, 0);
        x.meet(0, 0, 1);
        x.sheet(0, 0, 3);
        Tapes.feed(x, "had");
        Tapes.read(x, " 3;chalk 1;takes 1;");
        Tapes.feed(x, "far");
        for (int twice = 0; twice < 2; twice++) {
            check.due("back(): how many there are now", x.back(), 2);
            for (int what = 0; what < 6; what++) {
                check.due("as in THE IMAGE", x.count(what), what + 1);
            }
            check.due("THE LAW", x.force(2), 1);
            check.due("WORTH", x.want(2, 9), 44);
            check.due("WORTH of the first", x.want(0, 50), 9);
            check.due("TAKEN", x.mistake(0, 1, 3), 7);
            check.due("TAKEN as itself", x.mistake(0, 0, 3), 10);
            check.due("TAKEN of a later WORD stays", x.mistake(2, 0, 21), 21);
            check.due("TAKEN as a later WORD stays", x.mistake(0, 2, 22), 22);
            check.due("TAKEN of a later WORD as itself stays", x.mistake(2, 2, 23), 23);
            int[] stays = {2, 3, 1, 1, 4, 2, 3};
            for (int what = 6; what <= 12; what++) {
                check.due("stays, " + what, x.count(what), stays[what - 6]);
            }
            check.due("a SHEET stays", x.cell(0, 2, 0), 1);
            x.set(3, 9);
            x.set(0, 17);
            x.set(1, 9);
            x.set(2, 9);
            x.set(4, 9);
            x.set(5, 9);
        }
        check.due("a new image", x.image(), 2);
        x.set(3, 0);
        check.due("back to it", x.back(), 2);
        check.due("the new one", x.count(3), 9);
    }
}

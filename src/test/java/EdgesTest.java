import java.util.Arrays;
import java.util.List;

/**
 * Promises 2 to 45, each number of each call: the last one that is taken and the first that is refused on each side, of
 * several refusals the one that is told first, and that a refused call changes nothing. In an object that is new, in one
 * with some of all, in one that is full.
 */
public final class EdgesTest {
    private static final Check check = new Check("EdgesTest");
    private static final long BAD = ThroughATrumpet.BAD, FULL = ThroughATrumpet.FULL, STATE = ThroughATrumpet.STATE;

    /**
     * The call, then of each of its numbers the refusal, the least and the most that is taken; #6 is count(6) less 1. Of
     * refusals that differ the one that is told first has a ! ahead.
     */
    private static final String[] CALLS = {
        "want !-1:0:5 -2:0:99", "count -2:0:12", "pass -2:0:#5", "force -2:0:#10", "asks -2:0:2 -2:0:#5 -2:0:5",
        "told !-5:0:#6 -7:0:#5 -7:0:5", "run NO:0:7", "minute !-5:0:#6 -7:0:1", "best NO:0:2",
        "mistake !-1:0:#7 !-1:0:#7 -2:0:99", "odds NO:0:#7 NO:0:#7 NO:0:1", "was -5:0:#7", "list -2:0:@7 -2:0:1",
        "bits -2:0:9999 -2:0:15", "ask -2:0:9999 -2:0:15 -2:0:1", "clocks NO:-9999:9999 NO:-9999:9999 NO:101:9999 NO:0:3",
        "printed !-5:0:#8 -7:0:3", "join -5:0:#8", "met -5:0:3", "falseOnes !-5:0:3 -7:0:60", "there NO:0:3 NO:0:60 NO:0:365",
        "last !-5:0:3 -7:0:60 -7:0:1", "cellOdds NO:0:3 NO:0:60365 NO:0:60 : NO:0:1", "news !-5:0:3 -7:0:365 !-5:0:3",
        "peace !-5:0:3 -7:0:365 -7:0:365", "key !-5:0:3 -7:0:365 !-5:0:3", "drawn -2:0:99999 -2:0:2", "taken -12:0:13 !-2:0:6"};

    /** Calls that bring one more: behind them how many there may be, and which count() tells. */
    private static final String[] BRINGING = {
        "say -2:0:5 -2:0:5 -2:0:9 / 8 6", "word -2:0:9999 -2:0:99 / 6 7", "print -2:0:3 -2:0:365 -2:0:60 -2:0:9 / 10 8"};

    /** Calls that only ask, with numbers that are taken where there is something. */
    private static final String[] ASKING = {
        "count 6", "pass 3", "asks 0 3 2", "told 2 3 3", "run 0", "minute 2 1", "judge 0", "best 0", "best 2", "side",
        "leave", "odds 1 0 0", "was 1", "list 2 1", "bits 1234 3", "ask 1234 3 0", "clocks 4 5 607 2", "printed 2 3",
        "join 1", "met 0", "falseOnes 0 1", "there 0 1 12", "last 0 1 1", "cellOdds 0 1012 20 -5 1", "news 0 3 2",
        "peace 0 3 20", "key 0 3 2", "drawn 77 2", "taken 0 6", "taken 7 1"};

    private final List<String> state;
    private final String name;
    private final long[] unchanged;

    private EdgesTest(String name, List<String> state) {
        this.name = name;
        this.state = state;
        unchanged = Calls.answers(Calls.behind(state), States.LOOK);
        check.holds(name + " keeps to 512 calls", state.size() + States.LOOK.size() + 1 <= 512);
    }

    public static void main(String[] args) {
        EdgesTest[] all = {new EdgesTest("new", States.NEW), new EdgesTest("some", States.SOME),
            new EdgesTest("full", States.FULL)};
        for (EdgesTest test : all) {
            for (String form : CALLS) {
                test.edges(form.split(" "), 0);
            }
            for (String form : BRINGING) {
                test.bringing(form.split(" / "));
            }
            for (String line : ASKING) {
                test.leavesAll(line);
            }
            test.set();
            test.feedAndText();
            test.meet();
            test.host();
            test.backWithoutImage();
        }
        check.end();
    }

    /** It is answered so, and all is as without it. */
    private void refused(String line, long due) {
        ThroughATrumpet x = Calls.behind(state);
        check.due(name + ": " + line, Calls.call(x, line), due);
        check.holds(name + ": " + line + " changes nothing", Arrays.equals(Calls.answers(x, States.LOOK), unchanged));
    }

    private void leavesAll(String line) {
        ThroughATrumpet x = Calls.behind(state);
        Calls.call(x, line);
        check.holds(name + ": " + line + " changes nothing", Arrays.equals(Calls.answers(x, States.LOOK), unchanged));
    }

    /** It is answered as by the plain model, and that is none of the refusals. */
    private void taken(String line, long... refusals) {
        ThroughATrumpet x = Calls.behind(state);
        PlainModel model = new PlainModel();
        Calls.answers(model, state);
        long got = Calls.call(x, line);
        check.due(name + ": " + line, got, Calls.call(model, line));
        for (long refusal : refusals) {
            check.holds(name + ": " + line + " is not refused", got != refusal);
        }
        check.holds(name + ": " + line + " leaves what it should",
                Arrays.equals(Calls.answers(x, States.LOOK), Calls.answers(model, States.LOOK)));
    }

    /** Whole: what is answered though all numbers are as told; 0: they are taken. */
    private void edges(String[] form, long whole) {
        int n = form.length - 1;
        int[] least = new int[n];
        int[] most = new int[n];
        boolean empty = false;
        for (int i = 0; i < n; i++) {
            String[] told = form[i + 1].split(":");
            boolean any = told.length == 0;
            least[i] = any ? 0 : Integer.parseInt(told[1]);
            most[i] = any ? 0 : bound(told[2]);
            empty |= most[i] < least[i];
        }
        for (int wrong = 0; wrong < 1 << n; wrong++) {
            for (int side = 0; side < 4; side++) {
                edge(form, least, most, wrong, side, whole);
            }
        }
        for (int i = 0; i < n && !empty && whole == 0; i++) {
            String[] numbers = numbers(least, most, 0, 0);
            taken(line(form[0], numbers), refusalsOf(form));
            numbers[i] = String.valueOf(most[i]);
            taken(line(form[0], numbers), refusalsOf(form));
        }
    }

    /** Wrong: bits of the numbers that are outside, on one of four sides. */
    private void edge(String[] form, int[] least, int[] most, int wrong, int side, long whole) {
        long due = 0;
        boolean first = false;
        for (int i = 0; i < least.length; i++) {
            String told = form[i + 1];
            if (told.equals(":") && (wrong >> i & 1) != 0) {
                return;
            }
            if ((wrong >> i & 1) != 0 || most[i] < least[i]) {
                boolean ahead = told.charAt(0) == '!';
                if (due == 0 || ahead && !first) {
                    due = refusal(told);
                }
                first |= ahead;
            }
        }
        if (due == 0) {
            due = whole;
        }
        if (due != 0) {
            refused(line(form[0], numbers(least, most, wrong, side)), due);
        }
    }

    private static String[] numbers(int[] least, int[] most, int wrong, int side) {
        String[] numbers = new String[least.length];
        for (int i = 0; i < numbers.length; i++) {
            int[] outside = {least[i] - 1, Math.max(least[i], most[i] + 1), Integer.MIN_VALUE, Integer.MAX_VALUE};
            // two that are wrong at once are so on unlike sides, too
            int v = (wrong >> i & 1) != 0 ? outside[(side + i) % 4] : side % 2 == 0 ? least[i] : Math.max(least[i], most[i]);
            numbers[i] = String.valueOf(v);
        }
        return numbers;
    }

    private static String line(String call, String[] numbers) {
        return call + " " + String.join(" ", numbers);
    }

    private static long refusal(String told) {
        String code = told.replace("!", "").split(":")[0];
        return code.equals("NO") ? ThroughATrumpet.NO : Long.parseLong(code);
    }

    private static long[] refusalsOf(String[] form) {
        return Arrays.stream(form).skip(1).filter(told -> !told.equals(":")).mapToLong(EdgesTest::refusal)
                .filter(code -> code != -1).toArray();
    }

    private int bound(String told) {
        if (told.charAt(0) != '#' && told.charAt(0) != '@') {
            return Integer.parseInt(told);
        }
        int count = Calls.behind(state).count(Integer.parseInt(told.substring(1)));
        return told.charAt(0) == '#' ? count - 1 : count;
    }

    private void bringing(String[] form) {
        String[] limit = form[1].split(" ");
        boolean full = Calls.behind(state).count(Integer.parseInt(limit[1])) == Integer.parseInt(limit[0]);
        edges(form[0].split(" "), full ? FULL : 0);
    }

    private void set() {
        int[] least = {0, 0, -9, 0, 0, 1};
        int[] most = {20, 9, 9, 9, 4095, 12};
        for (int what = 0; what < 6; what++) {
            taken("set " + what + " " + least[what]);
            taken("set " + what + " " + most[what]);
            for (int v : new int[] {least[what] - 1, most[what] + 1, Integer.MIN_VALUE, Integer.MAX_VALUE}) {
                refused("set " + what + " " + v, BAD);
            }
        }
        for (int what : new int[] {-1, 6, Integer.MIN_VALUE, Integer.MAX_VALUE}) {
            refused("set " + what + " 1", ThroughATrumpet.NONE);
            refused("set " + what + " 5000", ThroughATrumpet.NONE);
            refused("set " + what + " -5000", ThroughATrumpet.NONE);
        }
    }

    private void feedAndText() {
        boolean full = state == States.FULL;
        for (int n : new int[] {-1, 0, 9, Integer.MIN_VALUE, Integer.MAX_VALUE}) {
            refused("feed 32 " + n, BAD);
        }
        for (int n = 1; n <= 8; n++) {
            String line = "feed 2314885530818453536 " + n;
            if (full) {
                refused(line, FULL);
            } else {
                taken(line, FULL);
            }
        }
        if (full) {
            refused("text", FULL);
        } else {
            taken("text", FULL);
        }
    }

    private void meet() {
        String[] form = "meet -2:0:365 -2:0:3 -2:0:3".split(" ");
        int count = Calls.behind(state).count(9);
        int last = state == States.NEW ? 0 : state == States.SOME ? 9 : 10 + 3 * 23;
        for (String bad : new String[] {"-1 0 1", "366 0 1", last + " -1 1", last + " 4 1", last + " 0 -1", last + " 0 4",
            last + " 0 0", last + " 3 3", last - 1 + " 2 2", last - 1 + " 4 0", "-2147483648 0 1", "2147483647 0 1",
            last + " 2147483647 2147483647"}) {
            refused(form[0] + " " + bad, BAD);
        }
        for (int ahead = 0; ahead < last; ahead++) {
            if (ahead % 20 == 0 || ahead == last - 1) {
                refused("meet " + ahead + " 0 1", STATE);
            }
        }
        for (String good : new String[] {last + " 0 1", last + " 3 2", last + 1 + " 1 2", "365 3 0", "365 0 3"}) {
            if (count == 24) {
                refused("meet " + good, FULL);
            } else {
                taken("meet " + good, BAD, STATE, FULL);
            }
        }
    }

    private void host() {
        int[] outside = {-1, 4, Integer.MIN_VALUE, Integer.MAX_VALUE};
        for (int s : outside) {
            refused("judge " + s, ThroughATrumpet.NO);
            refused("sheet " + s + " 0 1", BAD);
            refused("sheet " + s + " -1 1", BAD);
            refused("sheet " + s + " 0 -1", BAD);
            refused("cell " + s + " 0 0", BAD);
            refused("cell " + s + " -1 0", BAD);
            refused("copy " + s + " 0 0 0 0", BAD);
            refused("copy 0 0 " + s + " 0 0", BAD);
            refused("copy 3 -1 " + s + " 0 -1", BAD);
            refused("copy " + s + " -1 3 0 -1", BAD);
            refused("sayingsBy " + s + " 0 0 1", BAD);
            refused("sayingsBy " + s + " 0 0 0", BAD);
        }
        for (int s = 0; s < 4; s++) {
            sheet(s);
            cellAndJudge(s);
            sayingsBy(s);
            for (int other = 0; other < 4; other++) {
                copy(s, other);
            }
        }
    }

    private int sortOf(int s) {
        int[] some = {0, 1, 2, -1};
        int[] full = {0, 1, 2, 2};
        return state == States.NEW ? -1 : state == States.SOME ? some[s] : full[s];
    }

    private int sizeOf(int s) {
        int[] some = {3, 9, 2, 0};
        int[] full = {3, 8, 40, 1};
        return state == States.NEW ? 0 : state == States.SOME ? some[s] : full[s];
    }

    private void sheet(int s) {
        for (int sort : new int[] {-2, 3, Integer.MIN_VALUE, Integer.MAX_VALUE}) {
            for (int n : new int[] {0, 40, 41, -1}) {
                refused("sheet " + s + " " + sort + " " + n, BAD);
            }
        }
        for (int sort = 0; sort < 3; sort++) {
            refused("sheet " + s + " " + sort + " 41", BAD);
            refused("sheet " + s + " " + sort + " 2147483647", BAD);
            refused("sheet " + s + " " + sort + " -1", -14);
            refused("sheet " + s + " " + sort + " -2147483648", -14);
            taken("sheet " + s + " " + sort + " 0", BAD, -14);
            taken("sheet " + s + " " + sort + " 40", BAD, -14);
        }
        for (int n : new int[] {0, 40, 41, -1, Integer.MIN_VALUE, Integer.MAX_VALUE}) {
            taken("sheet " + s + " -1 " + n, BAD, -14);
        }
    }

    private void cellAndJudge(int s) {
        boolean missing = sortOf(s) < 0;
        if (missing) {
            refused("judge " + s, ThroughATrumpet.NO);
        }
        for (int i : new int[] {-1, sizeOf(s), Integer.MIN_VALUE, Integer.MAX_VALUE}) {
            refused("cell " + s + " " + i + " 1", missing ? -11 : -12);
        }
        if (!missing) {
            for (int v : new int[] {0, 1, 7, 8, -1, 255, 256, 257, 65535, 65536, 65537, Integer.MIN_VALUE}) {
                taken("cell " + s + " 0 " + v, BAD, -11, -12);
                taken("cell " + s + " " + (sizeOf(s) - 1) + " " + v, BAD, -11, -12);
            }
        }
    }

    private void sayingsBy(int s) {
        for (int sort = 0; sort < 3; sort++) {
            for (int n : new int[] {-1, 9, Integer.MIN_VALUE, Integer.MAX_VALUE}) {
                refused("sayingsBy " + s + " " + sort + " 0 " + n, BAD);
                refused("sayingsBy " + s + " " + sort + " -1 " + n, BAD);
            }
            long due = sortOf(s) < 0 ? -11 : sortOf(s) != sort ? -13 : -12;
            for (int at : new int[] {-1, -3, sizeOf(s) - 2, sizeOf(s), Integer.MIN_VALUE, Integer.MAX_VALUE}) {
                refused("sayingsBy " + s + " " + sort + " " + at + " 1", due);
                refused("sayingsBy " + s + " " + sort + " " + at + " 8", due);
            }
            if (due != -12) {
                refused("sayingsBy " + s + " " + sort + " 0 0", due);
                refused("sayingsBy " + s + " " + sort + " 0 8", due);
            } else {
                taken("sayingsBy " + s + " " + sort + " 0 0", BAD, -11, -12, -13);
                taken("sayingsBy " + s + " " + sort + " 0 8", BAD, -11, -13);
                taken("sayingsBy " + s + " " + sort + " " + (sizeOf(s) - 3) + " 1", BAD, -11, -13);
            }
        }
        for (int sort : new int[] {-1, 3, Integer.MIN_VALUE, Integer.MAX_VALUE}) {
            refused("sayingsBy " + s + " " + sort + " 0 1", BAD);
            refused("sayingsBy " + s + " " + sort + " -1 9", BAD);
        }
    }

    private void copy(int s, int other) {
        int size = sizeOf(s);
        int otherSize = sizeOf(other);
        int least = Math.min(size, otherSize);
        long due = sortOf(s) < 0 || sortOf(other) < 0 ? -11 : sortOf(s) != sortOf(other) ? -13 : -12;
        int[][] outside = {{0, 0, -1}, {0, 0, Integer.MIN_VALUE}, {-1, 0, 1}, {0, -1, 1}, {-1, 0, 0}, {0, -1, 0},
            {0, 0, least + 1}, {size, 0, 1}, {0, otherSize, 1}, {size + 1, 0, 0}, {0, otherSize + 1, 0},
            {Integer.MAX_VALUE, 0, 1}, {0, Integer.MAX_VALUE, 1}, {1, 1, Integer.MAX_VALUE},
            {Integer.MIN_VALUE, 0, Integer.MIN_VALUE}, {Integer.MAX_VALUE, Integer.MAX_VALUE, Integer.MAX_VALUE}};
        for (int[] o : outside) {
            refused("copy " + s + " " + o[0] + " " + other + " " + o[1] + " " + o[2], due);
        }
        int[][] inside = {{0, 0, 0}, {size, otherSize, 0}, {0, 0, least}, {size - least, otherSize - least, least},
            {size - 1, 0, 1}, {0, otherSize - 1, 1}};
        for (int[] i : inside) {
            String line = "copy " + s + " " + i[0] + " " + other + " " + i[1] + " " + i[2];
            if (due == -12) {
                taken(line, BAD, -11, -12, -13);
            } else {
                refused(line, due);
            }
        }
    }

    private void backWithoutImage() {
        if (state == States.NEW) {
            refused("back", STATE);
        } else {
            taken("back", STATE);
        }
        taken("image");
    }
}

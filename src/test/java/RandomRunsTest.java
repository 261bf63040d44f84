import java.lang.reflect.Method;
import java.util.Random;

/** Runs of calls that are drawn, each answer as of the plain model; all promises. */
public final class RandomRunsTest {
    private static final Check check = new Check("RandomRunsTest");

    // for each call how often it is drawn, and its numbers: from .. to; one outside comes now and then
    private static final String[] CALLS = {
        "set 6 0:5 *", "want 3 0:5 0:99", "count 2 0:12", "pass 2 0:11", "force 3 0:5", "asks 4 0:2 0:11 0:5",
        "say 5 0:5 0:5 0:9", "told 6 0:7 0:11 0:5", "run 5 0:7", "minute 4 0:7 0:1", "judge 6 0:3", "best 2 0:2",
        "side 1", "leave 2", "word 4 0:9999 0:99", "mistake 8 0:5 0:5 0:99", "odds 6 0:5 0:5 0:1", "was 5 0:5",
        "list 3 0:6 0:1", "bits 3 0:9999 0:15", "ask 4 0:9999 0:15 0:1", "clocks 3 -9999:9999 -9999:9999 0:9999 0:3",
        "print 6 0:3 0:365 0:60 0:9", "printed 2 0:9 0:3", "join 4 0:9", "met 3 0:3", "falseOnes 3 0:3 0:60",
        "there 3 0:3 0:60 0:365", "last 3 0:3 0:60 0:1", "cellOdds 3 0:3 0:60365 0:60 L 0:1", "meet 6 0:365 0:3 0:3",
        "news 4 0:3 0:365 0:3", "peace 4 0:3 0:365 0:365", "key 4 0:3 0:365 0:3", "drawn 4 0:99999 0:2", "image 1",
        "back 1", "sheet 5 0:3 -1:2 0:40", "cell 9 0:3 0:39 0:9", "copy 5 0:3 0:39 0:3 0:39 0:39",
        "sayingsBy 3 0:3 0:2 0:39 0:8", "taken 4 0:13 0:6", "text 2"};

    private final Random random;
    private final ThroughATrumpet real = new ThroughATrumpet();
    private final PlainModel model = new PlainModel();
    private final StringBuilder told = new StringBuilder();
    private int calls;

    private RandomRunsTest(long seed) {
        random = new Random(seed);
    }

    public static void main(String[] args) throws ReflectiveOperationException {
        int runs = args.length > 0 ? Integer.parseInt(args[0]) : 500;
        for (int seed = 0; seed < runs; seed++) {
            new RandomRunsTest(seed).go();
        }
        for (int seed = 0; seed < 20 * runs; seed++) {
            new RandomRunsTest(-1 - seed).readOne();
        }
        check.end();
    }

    /** A text of its own object: from the grammar, or tokens as they come behind a good beginning. */
    private void readOne() throws ReflectiveOperationException {
        if (random.nextInt(3) == 0) {
            feedText(drawnText());
        } else {
            String[] tokens = {"(", "(", ")", ")", "not ", "-", "-", "+", "*", "<", "=", " and ", " or ", ";", "1", "7",
                "far", " sail ", "had ", "chalk ", "takes ", " ", "\n", "word", "99999", "?", "wind"};
            StringBuilder text = new StringBuilder(random.nextInt(9) == 0 ? "" : "had ");
            for (int k = random.nextInt(24); k > 0; k--) {
                text.append(tokens[random.nextInt(tokens.length)]);
            }
            text.append(random.nextBoolean() ? "" : ";chalk 1;takes 1;");
            feedText(text.length() > 160 ? text.substring(0, 160) : text.toString());
        }
        for (int part = 0; part < 3; part++) {
            compare("asks", new Object[] {part, random.nextInt(11), random.nextInt(6)});
        }
    }

    /** Each run likes some of the calls more than others, and small numbers or large ones. */
    private void go() throws ReflectiveOperationException {
        int[] often = new int[CALLS.length];
        int all = 0;
        for (int k = 0; k < CALLS.length; k++) {
            int usual = Integer.parseInt(CALLS[k].split(" ")[1]);
            often[k] = random.nextInt(3) == 0 ? 0 : usual * (1 + random.nextInt(3));
            all += often[k];
        }
        boolean close = random.nextBoolean();
        // an object is used for 512 calls; a text takes 22 at most
        while (calls < 512) {
            if (calls < 490 && random.nextInt(25) == 0) {
                feedText(drawnText());
            }
            int lot = random.nextInt(all);
            int k = 0;
            while (lot >= often[k]) {
                lot -= often[k];
                k++;
            }
            call(CALLS[k].split(" "), close);
        }
    }

    private void call(String[] form, boolean close) throws ReflectiveOperationException {
        Object[] args = new Object[form.length - 2];
        for (int i = 0; i < args.length; i++) {
            if (form[i + 2].equals("L")) {
                args[i] = random.nextBoolean() ? random.nextLong() : random.nextLong() & random.nextLong();
            } else {
                args[i] = number(form[0], form[i + 2], close, i == 0 ? 0 : args[0]);
            }
        }
        compare(form[0], args);
    }

    private int number(String call, String form, boolean close, Object first) {
        int[][] bounds = {{0, 20}, {0, 9}, {-9, 9}, {0, 9}, {0, 4095}, {1, 12}};
        int what = (Integer) first;
        int from = form.equals("*") ? bounds[Math.floorMod(what, 6)][0] : Integer.parseInt(form.split(":")[0]);
        int to = form.equals("*") ? bounds[Math.floorMod(what, 6)][1] : Integer.parseInt(form.split(":")[1]);
        int lot = random.nextInt(60);
        if (lot == 0) {
            return to + 1;
        }
        if (lot == 1) {
            return from - 1;
        }
        if (lot == 2) {
            return random.nextInt();
        }
        if (call.equals("clocks") && to == 9999 && from == 0) {
            return 100 * (1 + random.nextInt(99)) + 1 + random.nextInt(99);
        }
        if (to == 60365) {
            return 1000 * small(61, close, 5) + small(366, close, 12);
        }
        if (to == 365 || to == 60) {
            return small(to + 1, close, to == 365 ? 9 : 14);
        }
        if (to == 9999 && from == 0) {
            // few figures, so that some are alike
            return 1000 * random.nextInt(3) + 100 * random.nextInt(3) + 10 * random.nextInt(3) + random.nextInt(3);
        }
        if (to == 39 || to == 40) {
            return small(to + 1, close || random.nextBoolean(), 6);
        }
        if (call.equals("meet") && to == 365) {
            return model.count(9) * 4 + random.nextInt(8);
        }
        return from + random.nextInt(to - from + 1);
    }

    private int small(int below, boolean close, int belowThen) {
        return random.nextInt(close ? Math.min(below, belowThen) : below);
    }

    private void compare(String name, Object[] args) throws ReflectiveOperationException {
        Class<?>[] types = new Class<?>[args.length];
        for (int i = 0; i < args.length; i++) {
            types[i] = args[i] instanceof Long ? long.class : int.class;
        }
        Method ofReal = ThroughATrumpet.class.getMethod(name, types);
        Method ofModel = PlainModel.class.getDeclaredMethod(name, types);
        String call = name + java.util.Arrays.toString(args);
        told.append(call).append(' ');
        calls++;
        long got = ((Number) ofReal.invoke(real, args)).longValue();
        long due = ((Number) ofModel.invoke(model, args)).longValue();
        if (got != due) {
            System.out.println("behind " + told);
        }
        check.due(call, got, due);
    }

    /** A text that is drawn from the grammar, often spoilt at one place. */
    private String drawnText() {
        String text = "had " + e(3) + ";chalk " + e(2) + " ; takes " + e(2) + ";";
        if (text.length() > 150) {
            text = "had " + e(1) + ";chalk 50 - " + one(1) + ";takes " + one(0) + ";";
        }
        if (random.nextInt(3) == 0) {
            int at = random.nextInt(text.length());
            String[] odd = {"", "(", ")", "not ", "-", ";", " ", "x", "12345", "#", "\n", "and", "or ", "=", "1", "far", "+"};
            text = text.substring(0, at) + odd[random.nextInt(odd.length)]
                    + text.substring(random.nextBoolean() ? at : Math.min(text.length(), at + 1));
        }
        if (random.nextInt(20) == 0) {
            text = text.substring(0, random.nextInt(text.length()));
        }
        return text;
    }

    private void feedText(String text) throws ReflectiveOperationException {
        for (int from = 0; from < text.length(); from += 8) {
            int n = Math.min(8, text.length() - from);
            long w = random.nextInt();
            for (int k = 0; k < n; k++) {
                w = w << 8 | text.charAt(from + k);
            }
            compare("feed", new Object[] {w, n});
        }
        compare("text", new Object[0]);
        compare("force", new Object[] {model.count(10) - 1});
    }

    private String e(int deep) {
        switch (random.nextInt(deep > 0 ? 7 : 1)) {
            case 1: return e(deep - 1) + " or " + e(deep - 1);
            case 2: return e(deep - 1) + " and " + e(deep - 1);
            case 3: return "not " + e(deep - 1);
            case 4: return sum(deep - 1) + (random.nextBoolean() ? "<" : " = ") + sum(deep - 1);
            default: return sum(deep);
        }
    }

    private String sum(int deep) {
        String sum = term(deep);
        for (int k = random.nextInt(3); k > 0; k--) {
            sum += (random.nextBoolean() ? "+" : " - ") + term(deep);
        }
        return sum;
    }

    private String term(int deep) {
        return random.nextInt(3) == 0 ? one(deep) + "*" + one(deep) : one(deep);
    }

    private String one(int deep) {
        switch (random.nextInt(deep > 0 ? 8 : 5)) {
            case 0: case 1: return String.valueOf(random.nextInt(random.nextInt(9) == 0 ? 10000 : 60));
            case 5: return "-" + one(deep - 1);
            case 6: case 7: return "(" + e(deep - 1) + ")";
            default: return new String[] {"far", "wind", "noise", "word", "sail", "minute"}[random.nextInt(6)];
        }
    }
}

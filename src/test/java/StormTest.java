import java.lang.reflect.InvocationTargetException;
import java.lang.reflect.Method;
import java.lang.reflect.Modifier;
import java.util.ArrayList;
import java.util.Comparator;
import java.util.List;
import java.util.Random;

/** Any numbers in any state: no call throws, and what is asked or refused changes nothing that can be counted. */
public final class StormTest {
    private static final Check check = new Check("StormTest");
    private static final int[] ODD = {Integer.MIN_VALUE, Integer.MIN_VALUE + 1, -1000, -100, -10, -9, -2, -1, 0, 0, 0, 1,
        1, 1, 2, 2, 3, 3, 4, 5, 6, 7, 8, 9, 10, 11, 12, 13, 14, 15, 16, 20, 21, 24, 39, 40, 41, 60, 61, 99, 100, 101, 159,
        160, 161, 365, 366, 1000, 4095, 4096, 9999, 10000, 60365, 61000, 99999, 100000, 65536, 1 << 30,
        Integer.MAX_VALUE - 2, Integer.MAX_VALUE - 1, Integer.MAX_VALUE};

    public static void main(String[] args) {
        List<Method> calls = new ArrayList<>();
        for (Method m : ThroughATrumpet.class.getDeclaredMethods()) {
            if (Modifier.isPublic(m.getModifiers())) {
                calls.add(m);
            }
        }
        calls.sort(Comparator.comparing(Method::getName));
        Random random = new Random(20261118);
        for (int run = 0; run < 3000; run++) {
            ThroughATrumpet x = new ThroughATrumpet();
            // an object is used for 512 calls: these are 10 at most in build(), 27 in callOne()
            for (int used = 0; used < 480; ) {
                used += random.nextInt(6) == 0 ? build(x, random)
                        : callOne(x, calls.get(random.nextInt(calls.size())), random);
            }
        }
        check.end();
    }

    /** Answers how many calls that were. */
    private static int callOne(ThroughATrumpet x, Method call, Random random) {
        Object[] args = new Object[call.getParameterCount()];
        for (int i = 0; i < args.length; i++) {
            int odd = random.nextInt(9) == 0 ? random.nextInt() : ODD[random.nextInt(ODD.length)];
            args[i] = call.getParameterTypes()[i] == long.class ? (Object) (random.nextLong() >> random.nextInt(64)) : odd;
        }
        boolean compares = random.nextInt(16) == 0;
        String before = compares ? counts(x) : "";
        long answer = 0;
        boolean threw = false;
        try {
            answer = ((Number) call.invoke(x, args)).longValue();
        } catch (InvocationTargetException | IllegalAccessException e) {
            threw = true;
            System.out.println(e.getCause());
        }
        check.holds(call.getName() + java.util.Arrays.toString(args) + " throws nothing", !threw);
        boolean reads = call.getName().equals("text") && answer <= -100;
        boolean outside = call.getName().equals("sayingsBy") && answer == -12;
        boolean wind = call.getName().equals("set");
        if (compares) {
            check.holds(call.getName() + java.util.Arrays.toString(args) + " is refused and changes nothing",
                    answer >= 0 || reads || outside || wind || before.equals(counts(x)));
        }
        return compares ? 27 : 1;
    }

    private static String counts(ThroughATrumpet x) {
        StringBuilder all = new StringBuilder();
        for (int what = 0; what <= 12; what++) {
            all.append(x.count(what)).append(' ');
        }
        return all.toString();
    }

    /** Something that is as told, so that states are full ones too. */
    private static int build(ThroughATrumpet x, Random random) {
        switch (random.nextInt(9)) {
            case 0: x.say(random.nextInt(6), random.nextInt(6), random.nextInt(10)); break;
            case 1: x.word(random.nextInt(10000), random.nextInt(100)); break;
            case 2: x.print(random.nextInt(4), random.nextInt(366), random.nextInt(61), random.nextInt(10)); break;
            case 3: x.meet(x.count(9) * 15, random.nextInt(4), random.nextInt(4)); break;
            case 4: x.sheet(random.nextInt(4), random.nextInt(4) - 1, random.nextInt(41)); break;
            case 5: x.cell(random.nextInt(4), random.nextInt(40), random.nextInt(10)); break;
            case 6: x.mistake(random.nextInt(6), random.nextInt(6), random.nextInt(100)); break;
            case 7: x.set(random.nextInt(6), random.nextInt(13)); break;
            default:
                if (x.count(12) > 120) {
                    x.text();
                }
                Tapes.read(x, "had minute*9;chalk far;takes " + random.nextInt(9) + ";");
                x.force(random.nextInt(6));
                return 10;
        }
        return 1;
    }
}

import java.math.BigInteger;
import java.util.ArrayList;
import java.util.Arrays;
import java.util.List;
import java.util.TreeSet;

/**
 * The document said a second time, with other means (lists, sets, large numbers, texts that are split instead of
 * descended into), so that a slip in the class is not made here too. Speed does not matter here.
 */
final class PlainModel {
    private static final long NO = ThroughATrumpet.NO;
    private static final List<String> NAMES = List.of("far", "wind", "noise", "word", "sail", "minute");
    private static final List<String> KEYS = List.of("had", "chalk", "takes", "or", "and", "not");

    record Token(String word, int place) {
    }

    record Saying(int kind, int thing, int more) {
    }

    record Word(int figures, int often) {
    }

    record Report(int ship, int day, int cell, int book) {
    }

    record Meeting(int day, int a, int b) {
    }

    private int[] values = {4, 2, 0, 3, 0, 11};
    private int[] worth = {9, 7, 5, 3, 2, 1};
    private int law;
    private int[][] taken = new int[6][6];
    private final List<List<List<Token>>> texts = new ArrayList<>();
    private StringBuilder tape = new StringBuilder();
    private final List<Saying> sayings = new ArrayList<>();
    private final List<Word> words = new ArrayList<>();
    private final List<Report> reports = new ArrayList<>();
    private final List<Meeting> meetings = new ArrayList<>();
    private final int[] sorts = {-1, -1, -1, -1};
    private final int[][] sheets = new int[4][];
    private int[] valuesKept;
    private int[] worthKept;
    private int lawKept;
    private int[][] takenKept;
    private int wordsKept;

    PlainModel() {
        for (int w = 0; w < 6; w++) {
            taken[w][w] = 10;
        }
        tape.append("had 95 - far * 4 + wind * 2 - noise * 3 - sail * 40 ; chalk 90 - far * 5 ; takes 1 ;");
        text();
    }

    private static boolean in(long v, long a, long b) {
        return a <= v && v <= b;
    }

    // ---- the pass

    int set(int what, int v) {
        int[][] bounds = {{0, 20}, {0, 9}, {-9, 9}, {0, 9}, {0, 4095}, {1, 12}};
        if (!in(what, 0, 5)) {
            return -1;
        }
        if (!in(v, bounds[what][0], bounds[what][1])) {
            return -2;
        }
        int old = values[what];
        values[what] = v;
        return old;
    }

    int want(int t, int v) {
        if (!in(t, 0, 5)) {
            return -1;
        }
        if (!in(v, 0, 99)) {
            return -2;
        }
        int old = worth[t];
        worth[t] = v;
        return old;
    }

    int count(int what) {
        int[] all = {values[0], values[1], values[2], values[3], values[4], values[5], sayings.size(), words.size(),
            reports.size(), meetings.size(), texts.size(), law, tape.length()};
        return in(what, 0, 12) ? all[what] : -2;
    }

    private int far(int near, int m) {
        int off = 2 * m - (values[5] - 1);
        return near + values[1] * (off < 0 ? -off : off) / 2;
    }

    int pass(int m) {
        return in(m, 0, values[5] - 1) ? far(values[0], m) : -2;
    }

    // ---- the law

    int feed(long w, int n) {
        if (!in(n, 1, 8)) {
            return -2;
        }
        if (tape.length() + n > 160) {
            return -4;
        }
        byte[] all = new byte[8];
        for (int k = 7; k >= 0; k--) {
            all[k] = (byte) w;
            w >>= 8;
        }
        for (int k = 8 - n; k < 8; k++) {
            tape.append((char) (all[k] & 255));
        }
        return tape.length();
    }

    int text() {
        if (texts.size() == 6) {
            return -4;
        }
        String text = tape.toString();
        tape = new StringBuilder();
        List<Token> tokens = new ArrayList<>();
        java.util.regex.Matcher matcher = java.util.regex.Pattern
                .compile("[ \\n]+|([a-z]+)|([0-9]+)|([-();+*<=])|(.)", java.util.regex.Pattern.DOTALL).matcher(text);
        while (matcher.find()) {
            String t = matcher.group();
            if (matcher.group(1) != null && !NAMES.contains(t) && !KEYS.contains(t) || matcher.group(4) != null
                    || matcher.group(2) != null && t.length() > 4) {
                tokens.add(new Token("?", matcher.start()));
            } else if (t.charAt(0) != ' ' && t.charAt(0) != '\n') {
                tokens.add(new Token(t, matcher.start()));
            }
        }
        tokens.add(new Token("", text.length()));
        int bad = firstBad(tokens);
        if (bad >= 0) {
            return -100 - tokens.get(bad).place();
        }
        List<List<Token>> parts = new ArrayList<>();
        int from = 0;
        for (int i = 0; i < tokens.size(); i++) {
            if (tokens.get(i).word().equals(";")) {
                parts.add(tokens.subList(from + 1, i));
                from = i + 1;
            }
        }
        texts.add(parts);
        return texts.size() - 1;
    }

    /** A machine with a pile of what is open, which knows only whether a ONE or what joins may come. */
    private static int firstBad(List<Token> tokens) {
        int part = 0;
        boolean key = true;
        boolean operand = false;
        boolean notMay = false;
        boolean compared = false;
        List<String> open = new ArrayList<>();
        List<Boolean> comparedOutside = new ArrayList<>();
        for (int i = 0; i < tokens.size(); i++) {
            String t = tokens.get(i).word();
            if (key) {
                if (part == 3) {
                    return t.isEmpty() ? -1 : i;
                }
                if (!t.equals(KEYS.get(part))) {
                    return i;
                }
                key = false;
                operand = true;
                notMay = true;
                compared = false;
            } else if (operand) {
                boolean value = NAMES.contains(t) || !t.isEmpty() && Character.isDigit(t.charAt(0));
                boolean opens = t.equals("-") || t.equals("(") || t.equals("not") && notMay;
                if (!value && !opens || opens && open.size() == 5) {
                    return i;
                }
                if (value) {
                    operand = false;
                    dropTop(open, "-");
                } else {
                    open.add(t);
                    notMay = !t.equals("-");
                    if (t.equals("(")) {
                        comparedOutside.add(compared);
                        compared = false;
                    }
                }
            } else if (t.equals("+") || t.equals("-") || t.equals("*")) {
                operand = true;
                notMay = false;
            } else if ((t.equals("<") || t.equals("=")) && !compared) {
                operand = true;
                notMay = false;
                compared = true;
            } else if (t.equals("and") || t.equals("or")) {
                dropTop(open, "not");
                operand = true;
                notMay = true;
                compared = false;
            } else if (t.equals(")")) {
                dropTop(open, "not");
                if (open.isEmpty()) {
                    return i;
                }
                open.remove(open.size() - 1);
                compared = comparedOutside.remove(comparedOutside.size() - 1);
                dropTop(open, "-");
            } else if (t.equals(";")) {
                dropTop(open, "not");
                if (!open.isEmpty()) {
                    return i;
                }
                part++;
                key = true;
            } else {
                return i;
            }
        }
        return tokens.size() - 1;
    }

    private static void dropTop(List<String> open, String what) {
        while (!open.isEmpty() && open.get(open.size() - 1).equals(what)) {
            open.remove(open.size() - 1);
        }
    }

    /** Splits at the loosest word that stands outside of all brackets. */
    private static int value(List<Token> e, int[] names) {
        for (String joint : List.of("or", "and")) {
            int at = lastOutside(e, joint, joint);
            if (at >= 0) {
                boolean a = value(e.subList(0, at), names) != 0;
                boolean b = value(e.subList(at + 1, e.size()), names) != 0;
                return (joint.equals("or") ? a || b : a && b) ? 1 : 0;
            }
        }
        if (e.get(0).word().equals("not")) {
            return value(e.subList(1, e.size()), names) == 0 ? 1 : 0;
        }
        for (String[] joints : new String[][] {{"<", "="}, {"+", "-"}, {"*", "*"}}) {
            int at = lastOutside(e, joints[0], joints[1]);
            if (at >= 0) {
                int a = value(e.subList(0, at), names);
                int b = value(e.subList(at + 1, e.size()), names);
                switch (e.get(at).word()) {
                    case "<": return a < b ? 1 : 0;
                    case "=": return a == b ? 1 : 0;
                    case "+": return BigInteger.valueOf(a).add(BigInteger.valueOf(b)).intValue();
                    case "-": return BigInteger.valueOf(a).subtract(BigInteger.valueOf(b)).intValue();
                    default: return BigInteger.valueOf(a).multiply(BigInteger.valueOf(b)).intValue();
                }
            }
        }
        String first = e.get(0).word();
        if (first.equals("-")) {
            return BigInteger.valueOf(value(e.subList(1, e.size()), names)).negate().intValue();
        }
        if (first.equals("(")) {
            return value(e.subList(1, e.size() - 1), names);
        }
        return NAMES.contains(first) ? names[NAMES.indexOf(first)] : Integer.parseInt(first);
    }

    /** A - only counts if what stands ahead of it ends a ONE. */
    private static int lastOutside(List<Token> e, String one, String other) {
        int depth = 0;
        for (int i = e.size() - 1; i > 0; i--) {
            String t = e.get(i).word();
            depth += t.equals(")") ? 1 : t.equals("(") ? -1 : 0;
            String ahead = e.get(i - 1).word();
            boolean ends = ahead.equals(")") || NAMES.contains(ahead) || Character.isDigit(ahead.charAt(0));
            if (depth == 0 && ends && (t.equals(one) || t.equals(other))) {
                return i;
            }
        }
        return -1;
    }

    int force(int t) {
        if (!in(t, 0, texts.size() - 1)) {
            return -2;
        }
        int old = law;
        law = t;
        return old;
    }

    private int says(int part, int near, int m, int thing) {
        int[] names = {far(near, m), values[2], values[3], thing, (values[4] & 1 << m) != 0 ? 1 : 0, m};
        int v = value(texts.get(law).get(part), names);
        int least = part == 2 ? 1 : 0;
        int most = part == 2 ? 6 : 100;
        return v < least ? least : v > most ? most : v;
    }

    int asks(int part, int m, int thing) {
        return in(part, 0, 2) && in(m, 0, values[5] - 1) && in(thing, 0, 5) ? says(part, values[0], m, thing) : -2;
    }

    // ---- sayings, rows

    int say(int kind, int thing, int more) {
        if (!in(kind, 0, 5) || !in(thing, 0, 5) || !in(more, 0, 9)) {
            return -2;
        }
        if (sayings.size() == 8) {
            return -4;
        }
        sayings.add(new Saying(kind, thing, more));
        return sayings.size() - 1;
    }

    private int likely(Saying s, int kind, int near, int m) {
        switch (kind) {
            case 0: return says(0, near, m, s.thing());
            case 1: return Math.min(100, likely(s, 0, near, m) + 3 * s.more());
            case 2:
                int all = 100;
                for (int k = s.more() + 1; k > 0; k--) {
                    all = all * Math.min(100, likely(s, 0, near, m) + 10) / 100;
                }
                return all;
            case 3:
                int p = likely(s, 1, near, m);
                return p + (100 - p) * p / 100;
            case 4: return says(1, near, m, s.thing());
            default: return far(near, m) <= 2 * s.more() ? 100 : likely(s, 4, near, m) / 2;
        }
    }

    private int takes(Saying s, int near, int m) {
        int plain = says(2, near, m, s.thing());
        return List.of(plain, plain, plain + s.more() / 3, plain * 2, plain, plain + 1).get(s.kind());
    }

    int told(int i, int m, int what) {
        if (!in(i, 0, sayings.size() - 1)) {
            return -5;
        }
        if (!in(m, 0, values[5] - 1) || !in(what, 0, 5)) {
            return -7;
        }
        Saying s = sayings.get(i);
        int[] all = {s.kind(), s.thing(), s.more(), likely(s, s.kind(), values[0], m), takes(s, values[0], m),
            s.kind() < 4 ? 1 : 0};
        return all[what];
    }

    /** By SAYINGS: when each begins and how LIKELY it is had, -1 if it doesn't end in time. */
    private int[][] course(List<Integer> row, int near) {
        int[][] course = new int[8][];
        int now = 0;
        for (int i : row) {
            Saying s = sayings.get(i);
            if (now >= values[5]) {
                course[i] = new int[] {-1, -1};
            } else {
                int end = now + takes(s, near, now);
                course[i] = new int[] {now, end <= values[5] ? likely(s, s.kind(), near, now) : -1};
                now = end;
            }
        }
        return course;
    }

    private int had(List<Integer> row, int near, int thing) {
        int[][] course = course(row, near);
        int missed = 1000000;
        for (int i : row) {
            if (sayings.get(i).thing() == thing && course[i][1] >= 0) {
                missed = (int) ((long) missed * (100 - course[i][1]) / 100);
            }
        }
        return 1000000 - missed;
    }

    private long worth(List<Integer> row, int near) {
        long sum = 0;
        for (int t = 0; t < 6; t++) {
            sum += (long) had(row, near, t) * worth[t];
        }
        return sum;
    }

    private List<Integer> theRow() {
        List<Integer> row = new ArrayList<>();
        for (int i = 0; i < sayings.size(); i++) {
            row.add(i);
        }
        return row;
    }

    long run(int what) {
        if (!in(what, 0, 7)) {
            return NO;
        }
        if (what == 0) {
            return worth(theRow(), values[0]);
        }
        if (what == 1) {
            int n = 0;
            int[][] course = course(theRow(), values[0]);
            for (int i : theRow()) {
                n += course[i][1] >= 0 ? 1 : 0;
            }
            return n;
        }
        return had(theRow(), values[0], what - 2);
    }

    int minute(int i, int what) {
        if (!in(i, 0, sayings.size() - 1)) {
            return -5;
        }
        if (!in(what, 0, 1)) {
            return -7;
        }
        int v = course(theRow(), values[0])[i][what];
        return what == 1 ? Math.max(0, v) : v;
    }

    long judge(int s) {
        if (!in(s, 0, 3) || sheets[s] == null) {
            return NO;
        }
        List<Integer> row = new ArrayList<>();
        for (int v : sheets[s]) {
            if (!in(v, 0, sayings.size() - 1) || row.contains(v)) {
                return NO;
            }
            row.add(v);
        }
        return worth(row, values[0]);
    }

    long best(int what) {
        if (!in(what, 0, 2)) {
            return NO;
        }
        List<Integer> row = sayings.size() <= 5 ? bestOfAll(new ArrayList<>()) : bestByExchanges(theRow());
        long w = worth(row, values[0]);
        if (what > 0) {
            return what == 1 ? w : w - worth(theRow(), values[0]);
        }
        StringBuilder digits = new StringBuilder("0");
        for (int i : row) {
            digits.append(i + 1);
        }
        return Long.parseLong(digits.toString());
    }

    private List<Integer> bestOfAll(List<Integer> ahead) {
        if (ahead.size() == sayings.size()) {
            return ahead;
        }
        List<Integer> best = null;
        for (int i : theRow()) {
            if (!ahead.contains(i)) {
                List<Integer> longer = new ArrayList<>(ahead);
                longer.add(i);
                List<Integer> row = bestOfAll(longer);
                if (best == null || worth(row, values[0]) > worth(best, values[0])) {
                    best = row;
                }
            }
        }
        return best;
    }

    private List<Integer> bestByExchanges(List<Integer> row) {
        List<Integer> best = row;
        long most = worth(row, values[0]);
        for (int a = 0; a < row.size(); a++) {
            for (int b = a + 1; b < row.size(); b++) {
                List<Integer> other = new ArrayList<>(row);
                java.util.Collections.swap(other, a, b);
                long w = worth(other, values[0]);
                if (w > most) {
                    most = w;
                    best = other;
                }
            }
        }
        return best == row ? row : bestByExchanges(best);
    }

    int side() {
        int best = 20;
        for (int near = 20; near >= 0; near--) {
            if (worth(theRow(), near) >= worth(theRow(), best)) {
                best = near;
            }
        }
        return best;
    }

    int leave() {
        int best = -1;
        long most = worth(theRow(), values[0]);
        for (int i = sayings.size() - 1; i >= 0; i--) {
            List<Integer> row = theRow();
            row.remove(i);
            if (worth(row, values[0]) >= most) {
                most = worth(row, values[0]);
                best = i;
            }
        }
        return best;
    }

    // ---- words

    int word(int v, int n) {
        if (!in(v, 0, 9999) || !in(n, 0, 99)) {
            return -2;
        }
        if (words.size() == 6) {
            return -4;
        }
        words.add(new Word(v, n));
        return words.size() - 1;
    }

    int mistake(int said, int heard, int v) {
        if (!in(said, 0, words.size() - 1) || !in(heard, 0, words.size() - 1)) {
            return -1;
        }
        if (!in(v, 0, 99)) {
            return -2;
        }
        int old = taken[said][heard];
        taken[said][heard] = v;
        return old;
    }

    /** Above and below the line. */
    private BigInteger[] chance(int said, int heard) {
        int all = 0;
        for (int w = 0; w < words.size(); w++) {
            all += taken[said][w];
        }
        return new BigInteger[] {BigInteger.valueOf((long) words.get(said).often() * taken[said][heard]),
            BigInteger.valueOf(all == 0 ? 1 : all)};
    }

    private static long lowest(BigInteger above, BigInteger below, int part) {
        if (above.signum() == 0 || below.signum() == 0) {
            return part;
        }
        BigInteger gcd = above.gcd(below);
        return (part == 0 ? above : below).divide(gcd).longValueExact();
    }

    long odds(int heard, int said, int part) {
        if (!in(heard, 0, words.size() - 1) || !in(said, 0, words.size() - 1) || !in(part, 0, 1)) {
            return NO;
        }
        BigInteger above = BigInteger.ZERO;
        BigInteger below = BigInteger.ONE;
        for (int w = 0; w < words.size(); w++) {
            BigInteger[] c = chance(w, heard);
            above = above.multiply(c[1]).add(c[0].multiply(below));
            below = below.multiply(c[1]);
        }
        BigInteger[] c = chance(said, heard);
        return lowest(c[0].multiply(below), c[1].multiply(above), part);
    }

    int was(int heard) {
        if (!in(heard, 0, words.size() - 1)) {
            return -5;
        }
        int best = -1;
        for (int w = words.size() - 1; w >= 0; w--) {
            BigInteger[] c = chance(w, heard);
            BigInteger[] b = best < 0 ? null : chance(best, heard);
            if (c[0].signum() > 0 && (b == null || c[0].multiply(b[1]).compareTo(b[0].multiply(c[1])) >= 0)) {
                best = w;
            }
        }
        return best;
    }

    int list(int n, int what) {
        if (!in(n, 0, words.size()) || !in(what, 0, 1)) {
            return -2;
        }
        int best = -1;
        int least = Integer.MAX_VALUE;
        for (int bits = (1 << words.size()) - 1; bits >= 0; bits--) {
            TreeSet<Integer> list = setOf(bits);
            int muddled = 0;
            for (int a : list) {
                for (int b : list) {
                    muddled += a == b ? 0 : taken[a][b];
                }
            }
            if (list.size() == n && muddled <= least) {
                least = muddled;
                best = bits;
            }
        }
        return what == 0 ? best : least;
    }

    private static TreeSet<Integer> setOf(int bits) {
        TreeSet<Integer> set = new TreeSet<>();
        for (int i = 0; i < 32; i++) {
            if ((bits & 1 << i) != 0) {
                set.add(i);
            }
        }
        return set;
    }

    private static int bitsOf(Iterable<Integer> set) {
        int bits = 0;
        for (int i : set) {
            bits += 1 << i;
        }
        return bits;
    }

    private static String four(int figures) {
        return String.format("%04d", figures);
    }

    int bits(int heard, int which) {
        if (!in(heard, 0, 9999) || !in(which, 0, 15)) {
            return -2;
        }
        TreeSet<Integer> fit = new TreeSet<>();
        for (int w = 0; w < words.size(); w++) {
            boolean fits = true;
            for (int place : setOf(which)) {
                fits &= four(heard).charAt(place) == four(words.get(w).figures()).charAt(place);
            }
            if (fits) {
                fit.add(w);
            }
        }
        return bitsOf(fit);
    }

    int ask(int heard, int which, int what) {
        if (!in(heard, 0, 9999) || !in(which, 0, 15) || !in(what, 0, 1)) {
            return -2;
        }
        int best = -1;
        int fewest = 99;
        for (int place = 3; place >= 0; place--) {
            if (setOf(which).contains(place)) {
                continue;
            }
            int most = 0;
            for (char f = '0'; f <= '9'; f++) {
                int n = 0;
                for (int w : setOf(bits(heard, which))) {
                    n += four(words.get(w).figures()).charAt(place) == f ? 1 : 0;
                }
                most = n > most ? n : most;
            }
            if (most <= fewest) {
                fewest = most;
                best = place;
            }
        }
        return best < 0 || what == 0 ? best : fewest;
    }

    long clocks(int a, int b, int offs, int part) {
        int p = Math.floorDiv(offs, 100);
        int q = Math.floorMod(offs, 100);
        if (!in(a, -9999, 9999) || !in(b, -9999, 9999) || !in(p, 1, 99) || !in(q, 1, 99) || !in(part, 0, 3)) {
            return NO;
        }
        long above = part < 2 ? (long) a * q + (long) b * p : (long) p * q;
        return lowest(BigInteger.valueOf(above), BigInteger.valueOf(p + q), part % 2);
    }

    // ---- books

    int print(int ship, int day, int at, int book) {
        if (!in(ship, 0, 3) || !in(day, 0, 365) || !in(at, 0, 60) || !in(book, 0, 9)) {
            return -2;
        }
        if (reports.size() == 10) {
            return -4;
        }
        reports.add(new Report(ship, day, at, book));
        return reports.size() - 1;
    }

    int printed(int r, int what) {
        if (!in(r, 0, reports.size() - 1)) {
            return -5;
        }
        Report p = reports.get(r);
        return in(what, 0, 3) ? List.of(p.ship(), p.day(), p.cell(), p.book()).get(what) : -7;
    }

    /** A number for each REPORT that is the same for those of one meeting. */
    private int[] groups() {
        int[] group = new int[reports.size()];
        for (int i = 0; i < group.length; i++) {
            group[i] = i;
        }
        for (int i = 0; i < group.length; i++) {
            for (int j = 0; j < i; j++) {
                Report a = reports.get(i);
                Report b = reports.get(j);
                if (a.ship() == b.ship() && in(a.day() - b.day(), -1, 1) && in(a.cell() - b.cell(), -2, 2)) {
                    int gone = group[i];
                    for (int k = 0; k < group.length; k++) {
                        group[k] = group[k] == gone ? group[j] : group[k];
                    }
                }
            }
        }
        return group;
    }

    int join(int r) {
        if (!in(r, 0, reports.size() - 1)) {
            return -5;
        }
        TreeSet<Integer> one = new TreeSet<>();
        for (int i = 0; i < reports.size(); i++) {
            if (groups()[i] == groups()[r]) {
                one.add(i);
            }
        }
        return bitsOf(one);
    }

    int met(int ship) {
        if (!in(ship, 0, 3)) {
            return -5;
        }
        TreeSet<Integer> all = new TreeSet<>();
        for (int i = 0; i < reports.size(); i++) {
            if (reports.get(i).ship() == ship) {
                all.add(groups()[i]);
            }
        }
        return all.size();
    }

    private TreeSet<Integer> of(int ship) {
        TreeSet<Integer> all = new TreeSet<>();
        for (int i = 0; i < reports.size(); i++) {
            if (reports.get(i).ship() == ship) {
                all.add(i);
            }
        }
        return all;
    }

    int falseOnes(int ship, int speed) {
        if (!in(ship, 0, 3)) {
            return -5;
        }
        if (!in(speed, 0, 60)) {
            return -7;
        }
        TreeSet<Integer> best = of(ship);
        for (int bits = 1023; bits >= 0; bits--) {
            TreeSet<Integer> without = setOf(bits);
            TreeSet<Integer> others = of(ship);
            boolean good = others.containsAll(without);
            others.removeAll(without);
            for (int i : others) {
                for (int j : others) {
                    Report a = reports.get(i);
                    Report b = reports.get(j);
                    int days = Math.abs(a.day() - b.day());
                    good &= in(a.cell() - b.cell(), -speed * days, speed * days);
                }
            }
            if (good && without.size() <= best.size()) {
                best = without;
            }
        }
        return bitsOf(best);
    }

    private TreeSet<Integer> trueOnes(int ship, int speed) {
        TreeSet<Integer> all = of(ship);
        all.removeAll(setOf(falseOnes(ship, speed)));
        return all;
    }

    private List<Integer> cells(int ship, int speed, int day) {
        List<Integer> cells = new ArrayList<>();
        TreeSet<Integer> good = trueOnes(ship, speed);
        for (int c = 0; c <= 60; c++) {
            boolean may = true;
            for (int i : good) {
                may &= Math.abs(reports.get(i).cell() - c) <= speed * Math.abs(reports.get(i).day() - day);
            }
            if (may) {
                cells.add(c);
            }
        }
        return cells;
    }

    long there(int ship, int speed, int day) {
        if (!in(ship, 0, 3) || !in(speed, 0, 60) || !in(day, 0, 365)) {
            return NO;
        }
        long bits = 0;
        for (int c : cells(ship, speed, day)) {
            bits += 1L << c;
        }
        return bits;
    }

    int last(int ship, int speed, int what) {
        if (!in(ship, 0, 3)) {
            return -5;
        }
        if (!in(speed, 0, 60) || !in(what, 0, 1)) {
            return -7;
        }
        Report best = null;
        for (int i : trueOnes(ship, speed).descendingSet()) {
            if (best == null || reports.get(i).day() >= best.day()) {
                best = reports.get(i);
            }
        }
        return best == null ? -1 : what == 0 ? best.day() : best.cell();
    }

    long cellOdds(int ship, int when, int c, long empty, int part) {
        if (when < 0 || !in(ship, 0, 3) || when > 60365 || when % 1000 > 365 || !in(c, 0, 60) || !in(part, 0, 1)) {
            return NO;
        }
        List<Integer> cells = cells(ship, when / 1000, when % 1000);
        cells.removeIf(cell -> (empty & 1L << cell) != 0);
        if (!cells.contains(c)) {
            return part;
        }
        return part == 0 ? 1 : cells.size();
    }

    // ---- news

    int meet(int day, int a, int b) {
        if (!in(day, 0, 365) || !in(a, 0, 3) || !in(b, 0, 3) || a == b) {
            return -2;
        }
        for (Meeting m : meetings) {
            if (m.day() > day) {
                return -3;
            }
        }
        if (meetings.size() == 24) {
            return -4;
        }
        meetings.add(new Meeting(day, a, b));
        return meetings.size() - 1;
    }

    private int knows(int from, int day, int ship, Meeting without) {
        TreeSet<Integer> know = new TreeSet<>(List.of(from));
        if (from == ship) {
            return day;
        }
        for (Meeting m : meetings) {
            if (m != without && m.day() >= day && (know.contains(m.a()) || know.contains(m.b()))) {
                know.addAll(List.of(m.a(), m.b()));
                if (know.contains(ship)) {
                    return m.day();
                }
            }
        }
        return -1;
    }

    int news(int from, int day, int ship) {
        if (!in(from, 0, 3) || !in(ship, 0, 3)) {
            return -5;
        }
        return in(day, 0, 365) ? knows(from, day, ship, null) : -7;
    }

    int peace(int from, int day, int by) {
        if (!in(from, 0, 3)) {
            return -5;
        }
        if (!in(day, 0, 365) || !in(by, 0, 365)) {
            return -7;
        }
        int n = 0;
        for (int s = 0; s < 4; s++) {
            n += in(knows(from, day, s, null), 0, by) ? 1 : 0;
        }
        return n;
    }

    int key(int from, int day, int ship) {
        int with = news(from, day, ship);
        if (with < 0) {
            return with;
        }
        for (int m = 0; m < meetings.size(); m++) {
            if (!in(knows(from, day, ship, meetings.get(m)), 0, with)) {
                return m;
            }
        }
        return -1;
    }

    int drawn(int seed, int what) {
        if (!in(seed, 0, 99999) || !in(what, 0, 2)) {
            return -2;
        }
        BigInteger lot = BigInteger.valueOf(seed + 1);
        TreeSet<Integer> had = new TreeSet<>();
        TreeSet<Integer> things = new TreeSet<>();
        for (int i : theRow()) {
            if (minute(i, 1) > 0) {
                lot = lot.multiply(BigInteger.valueOf(48271)).mod(BigInteger.valueOf(2147483647));
                if (lot.mod(BigInteger.valueOf(100)).intValue() < minute(i, 1)) {
                    had.add(i);
                    things.add(sayings.get(i).thing());
                }
            }
        }
        int sum = 0;
        for (int t : things) {
            sum += worth[t];
        }
        return what == 0 ? bitsOf(things) : what == 1 ? bitsOf(had) : sum;
    }

    int image() {
        valuesKept = values.clone();
        worthKept = worth.clone();
        lawKept = law;
        wordsKept = words.size();
        takenKept = Arrays.stream(taken).map(int[]::clone).toArray(int[][]::new);
        return sayings.size();
    }

    int back() {
        if (valuesKept == null) {
            return -3;
        }
        values = valuesKept.clone();
        worth = worthKept.clone();
        law = lawKept;
        for (int a = 0; a < wordsKept; a++) {
            for (int b = 0; b < wordsKept; b++) {
                taken[a][b] = takenKept[a][b];
            }
        }
        return sayings.size();
    }

    // ---- the host

    int sheet(int s, int sort, int n) {
        if (!in(s, 0, 3) || !in(sort, -1, 2) || sort >= 0 && n > 40) {
            return -2;
        }
        if (sort >= 0 && n < 0) {
            return -14;
        }
        sorts[s] = sort;
        sheets[s] = sort < 0 ? null : new int[n];
        return 1;
    }

    int cell(int s, int i, int v) {
        if (!in(s, 0, 3)) {
            return -2;
        }
        if (sheets[s] == null) {
            return -11;
        }
        if (!in(i, 0, sheets[s].length - 1)) {
            return -12;
        }
        sheets[s][i] = sorts[s] == 0 ? (byte) v : sorts[s] == 1 ? (short) v : v;
        return 1;
    }

    int copy(int s, int i, int other, int j, int n) {
        if (!in(s, 0, 3) || !in(other, 0, 3)) {
            return -2;
        }
        if (sheets[s] == null || sheets[other] == null) {
            return -11;
        }
        if (sorts[s] != sorts[other]) {
            return -13;
        }
        if (n < 0 || i < 0 || j < 0 || (long) i + n > sheets[s].length || (long) j + n > sheets[other].length) {
            return -12;
        }
        int[] as = sheets[s].clone();
        for (int k = 0; k < n; k++) {
            sheets[other][j + k] = as[i + k];
        }
        return n;
    }

    int sayingsBy(int s, int sort, int at, int n) {
        if (!in(s, 0, 3) || !in(sort, 0, 2) || !in(n, 0, 8)) {
            return -2;
        }
        if (sheets[s] == null) {
            return -11;
        }
        if (sorts[s] != sort) {
            return -13;
        }
        int came = 0;
        for (long place = at; place < (long) at + 3 * n; place += 3) {
            if (place < 0 || place + 2 >= sheets[s].length) {
                return -12;
            }
            int[] t = Arrays.copyOfRange(sheets[s], (int) place, (int) place + 3);
            came += say(t[0], t[1], t[2]) >= 0 ? 1 : 0;
        }
        return came;
    }

    int taken(int i, int kind) {
        if (!in(kind, 0, 6)) {
            return -2;
        }
        if (!in(i, 0, 13)) {
            return -12;
        }
        if (i < 6) {
            return i >= words.size() ? -11 : kind == 6 ? words.get(i).figures() : -13;
        }
        if (i - 6 >= sayings.size()) {
            return -11;
        }
        String[] isOne = {"0", "01", "02", "013", "04", "045"};
        return isOne[sayings.get(i - 6).kind()].indexOf('0' + kind) >= 0 ? i - 6 : -13;
    }
}

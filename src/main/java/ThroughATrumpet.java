import java.util.Arrays;

/** Two ships that speak as they pass; what their words, the books in harbours and the news tell. */
public final class ThroughATrumpet {
    public static final int NONE = -1, BAD = -2, STATE = -3, FULL = -4;
    public static final long NO = -4611686018427387904L;

    private static final int NO_SUCH = -5, NO_PART = -7;
    private static final int NOTHING_THERE = -11, OUTSIDE = -12, UNLIKE = -13, BELOW_ZERO = -14;

    private static final int THINGS = 6, KINDS = 6, SHIPS = 4;
    private static final int LAST_DAY = 365, LAST_CELL = 60, TOP_SPEED = 60;
    private static final int TOP_FIGURES = 9999, ALL_HEARD = 15;

    private final Rows rows;
    private final Words words;
    private final Books books;
    private final Meetings meetings;
    private final Sheets sheets;
    private final Image kept;

    public ThroughATrumpet() {
        rows = new Rows();
        words = new Words();
        books = new Books();
        meetings = new Meetings();
        sheets = new Sheets();
        kept = new Image();
    }

    // ---- the pass

    public int set(int what, int v) {
        if (!within(what, 0, Pass.VALUES - 1)) {
            return NONE;
        }
        if (!within(v, Pass.LEAST[what], Pass.MOST[what])) {
            return BAD;
        }
        int was = rows.pass.values[what];
        rows.pass.values[what] = v;
        return was;
    }

    public int want(int t, int v) {
        if (!within(t, 0, THINGS - 1)) {
            return NONE;
        }
        if (!within(v, 0, 99)) {
            return BAD;
        }
        int was = rows.pass.worth[t];
        rows.pass.worth[t] = v;
        return was;
    }

    public int count(int what) {
        if (within(what, 0, Pass.VALUES - 1)) {
            return rows.pass.values[what];
        }
        switch (what) {
            case 6: return rows.size;
            case 7: return words.size;
            case 8: return books.size;
            case 9: return meetings.size;
            case 10: return rows.laws.size;
            case 11: return rows.pass.law;
            case 12: return rows.laws.reader.tape.size;
            default: return BAD;
        }
    }

    public int pass(int m) {
        return rows.pass.hasMinute(m) ? rows.pass.far(rows.pass.near(), m) : BAD;
    }

    // ---- the law

    public int feed(long w, int n) {
        if (!within(n, 1, 8)) {
            return BAD;
        }
        Tape tape = rows.laws.reader.tape;
        if (tape.size + n > Tape.LIMIT) {
            return FULL;
        }
        for (int k = n - 1; k >= 0; k--) {
            tape.put((int) (w >>> (8 * k)) & 255);
        }
        return tape.size;
    }

    public int text() {
        Laws laws = rows.laws;
        if (laws.size >= Laws.LIMIT) {
            return FULL;
        }
        int fault = laws.reader.readTape();
        return fault < 0 ? laws.add() : -100 - fault;
    }

    public int force(int t) {
        if (!within(t, 0, rows.laws.size - 1)) {
            return BAD;
        }
        int was = rows.pass.law;
        rows.pass.law = t;
        return was;
    }

    public int asks(int part, int m, int thing) {
        if (!within(part, 0, Laws.PARTS - 1) || !rows.pass.hasMinute(m) || !within(thing, 0, THINGS - 1)) {
            return BAD;
        }
        rows.sailBy(rows.pass.near());
        return rows.lawSays(part, m, thing);
    }

    // ---- sayings, rows

    public int say(int kind, int thing, int more) {
        if (!within(kind, 0, KINDS - 1) || !within(thing, 0, THINGS - 1) || !within(more, 0, 9)) {
            return BAD;
        }
        return rows.size >= Rows.LIMIT ? FULL : rows.add(kind, thing, more);
    }

    public int told(int i, int m, int what) {
        if (!within(i, 0, rows.size - 1)) {
            return NO_SUCH;
        }
        if (!rows.pass.hasMinute(m)) {
            return NO_PART;
        }
        rows.sailBy(rows.pass.near());
        switch (what) {
            case 0: return rows.kind[i];
            case 1: return rows.thing[i];
            case 2: return rows.more[i];
            case 3: return rows.likely[rows.learn(i, m)];
            case 4: return rows.takes[rows.learn(i, m)];
            case 5: return rows.byMouth(i) ? 1 : 0;
            default: return NO_PART;
        }
    }

    public long run(int what) {
        if (!within(what, 0, 1 + THINGS)) {
            return NO;
        }
        long worth = rows.worthAsTheyCame(rows.pass.near());
        if (what == 0) {
            return worth;
        }
        return what == 1 ? rows.inTime : Rows.WHOLE - rows.missed[what - 2];
    }

    public int minute(int i, int what) {
        if (!within(i, 0, rows.size - 1)) {
            return NO_SUCH;
        }
        if (!within(what, 0, 1)) {
            return NO_PART;
        }
        rows.worthAsTheyCame(rows.pass.near());
        return what == 0 ? rows.begins[i] : rows.had[i];
    }

    public long judge(int s) {
        if (!within(s, 0, Sheets.COUNT - 1) || sheets.sort[s] == Sheets.MISSING) {
            return NO;
        }
        return rows.worthByNumbers(sheets.numbers[s], sheets.size[s]);
    }

    public long best(int what) {
        if (!within(what, 0, 2)) {
            return NO;
        }
        long asTheyCame = rows.worthAsTheyCame(rows.pass.near());
        long worth = rows.size <= Rows.ALL_TRIED ? rows.tryAllOrders() : rows.exchangeWhileBetter();
        if (what == 0) {
            return rows.orderAsDigits();
        }
        return what == 1 ? worth : worth - asTheyCame;
    }

    public int side() {
        int found = 0;
        long most = -1;
        for (int near = Pass.LEAST[0]; near <= Pass.MOST[0]; near++) {
            long worth = rows.worthAsTheyCame(near);
            if (worth > most) {
                most = worth;
                found = near;
            }
        }
        return found;
    }

    public int leave() {
        long with = rows.worthAsTheyCame(rows.pass.near());
        int found = -1;
        long most = -1;
        for (int i = 0; i < rows.size; i++) {
            long worth = rows.worthWithout(i);
            if (worth > most) {
                most = worth;
                found = i;
            }
        }
        return most >= with ? found : -1;
    }

    // ---- words

    public int word(int v, int n) {
        if (!within(v, 0, TOP_FIGURES) || !within(n, 0, 99)) {
            return BAD;
        }
        return words.size >= Words.LIMIT ? FULL : words.add(v, n);
    }

    public int mistake(int said, int heard, int v) {
        if (!words.has(said) || !words.has(heard)) {
            return NONE;
        }
        if (!within(v, 0, 99)) {
            return BAD;
        }
        int was = words.taken[said][heard];
        words.taken[said][heard] = v;
        return was;
    }

    public long odds(int heard, int said, int part) {
        if (!words.has(heard) || !words.has(said) || !within(part, 0, 1)) {
            return NO;
        }
        return lowest(words.weight(said, heard), words.weightOfAll(heard), part);
    }

    public int was(int heard) {
        return words.has(heard) ? words.likeliest(heard) : NO_SUCH;
    }

    public int list(int n, int what) {
        if (!within(n, 0, words.size) || !within(what, 0, 1)) {
            return BAD;
        }
        int found = words.clearestList(n);
        return what == 0 ? found : words.muddle(found);
    }

    public int bits(int heard, int which) {
        if (!within(heard, 0, TOP_FIGURES) || !within(which, 0, ALL_HEARD)) {
            return BAD;
        }
        return words.fitting(heard, which);
    }

    public int ask(int heard, int which, int what) {
        if (!within(heard, 0, TOP_FIGURES) || !within(which, 0, ALL_HEARD) || !within(what, 0, 1)) {
            return BAD;
        }
        int left = words.fitting(heard, which);
        int found = -1;
        int fewest = -1;
        for (int place = 0; place < Words.FIGURES; place++) {
            if ((which >> place & 1) == 0) {
                int most = words.mostAlike(left, place);
                if (found < 0 || most < fewest) {
                    found = place;
                    fewest = most;
                }
            }
        }
        return what == 0 ? found : fewest;
    }

    public long clocks(int a, int b, int offs, int part) {
        if (!within(a, -9999, 9999) || !within(b, -9999, 9999) || !within(offs, 0, 9999) || !within(part, 0, 3)) {
            return NO;
        }
        int p = offs / 100;
        int q = offs % 100;
        if (p < 1 || q < 1) {
            return NO;
        }
        return part < 2 ? lowest(a * q + b * p, p + q, part) : lowest(p * q, p + q, part - 2);
    }

    // ---- books

    public int print(int ship, int day, int at, int book) {
        if (!isShip(ship) || !isDay(day) || !within(at, 0, LAST_CELL) || !within(book, 0, 9)) {
            return BAD;
        }
        return books.size >= Books.LIMIT ? FULL : books.add(ship, day, at, book);
    }

    public int printed(int r, int what) {
        if (!within(r, 0, books.size - 1)) {
            return NO_SUCH;
        }
        switch (what) {
            case 0: return books.ship[r];
            case 1: return books.day[r];
            case 2: return books.at[r];
            case 3: return books.book[r];
            default: return NO_PART;
        }
    }

    public int join(int r) {
        return within(r, 0, books.size - 1) ? books.meetingOf(r) : NO_SUCH;
    }

    public int met(int ship) {
        return isShip(ship) ? books.meetingsOf(ship) : NO_SUCH;
    }

    public int falseOnes(int ship, int speed) {
        if (!isShip(ship)) {
            return NO_SUCH;
        }
        return isSpeed(speed) ? books.falseOf(ship, speed) : NO_PART;
    }

    public long there(int ship, int speed, int day) {
        if (!isShip(ship) || !isSpeed(speed) || !isDay(day)) {
            return NO;
        }
        return books.cellsOf(ship, speed, day);
    }

    public int last(int ship, int speed, int what) {
        if (!isShip(ship)) {
            return NO_SUCH;
        }
        if (!isSpeed(speed) || !within(what, 0, 1)) {
            return NO_PART;
        }
        int r = books.latestTrue(ship, speed);
        if (r < 0) {
            return -1;
        }
        return what == 0 ? books.day[r] : books.at[r];
    }

    public long cellOdds(int ship, int when, int c, long empty, int part) {
        int speed = when / 1000;
        int day = when % 1000;
        if (!isShip(ship) || when < 0 || !isSpeed(speed) || !isDay(day)) {
            return NO;
        }
        if (!within(c, 0, LAST_CELL) || !within(part, 0, 1)) {
            return NO;
        }
        long cells = books.cellsOf(ship, speed, day) & ~empty;
        return lowest(cells >>> c & 1, Long.bitCount(cells), part);
    }

    // ---- news

    public int meet(int day, int a, int b) {
        if (!isDay(day) || !isShip(a) || !isShip(b) || a == b) {
            return BAD;
        }
        if (day < meetings.lastDay()) {
            return STATE;
        }
        return meetings.size >= Meetings.LIMIT ? FULL : meetings.add(day, a, b);
    }

    public int news(int from, int day, int ship) {
        if (!isShip(from) || !isShip(ship)) {
            return NO_SUCH;
        }
        return isDay(day) ? meetings.knowsFrom(from, day, ship, -1) : NO_PART;
    }

    public int peace(int from, int day, int by) {
        if (!isShip(from)) {
            return NO_SUCH;
        }
        return isDay(day) && isDay(by) ? meetings.howManyKnow(from, day, by) : NO_PART;
    }

    public int key(int from, int day, int ship) {
        if (!isShip(from) || !isShip(ship)) {
            return NO_SUCH;
        }
        return isDay(day) ? meetings.firstNeeded(from, day, ship) : NO_PART;
    }

    public int drawn(int seed, int what) {
        if (!within(seed, 0, 99999) || !within(what, 0, 2)) {
            return BAD;
        }
        int sayings = rows.drawnSayings(seed);
        if (what == 1) {
            return sayings;
        }
        int things = rows.thingsOf(sayings);
        return what == 0 ? things : rows.pass.worthOf(things);
    }

    public int image() {
        kept.keep(rows.pass, words);
        return rows.size;
    }

    public int back() {
        if (!kept.there) {
            return STATE;
        }
        kept.giveBack(rows.pass, words);
        return rows.size;
    }

    // ---- the host

    public int sheet(int s, int sort, int n) {
        if (!within(s, 0, Sheets.COUNT - 1) || !within(sort, Sheets.MISSING, Sheets.INTS)) {
            return BAD;
        }
        if (sort == Sheets.MISSING) {
            return sheets.renew(s, sort, 0);
        }
        if (n > Sheets.LIMIT) {
            return BAD;
        }
        return n < 0 ? BELOW_ZERO : sheets.renew(s, sort, n);
    }

    public int cell(int s, int i, int v) {
        if (!within(s, 0, Sheets.COUNT - 1)) {
            return BAD;
        }
        if (sheets.sort[s] == Sheets.MISSING) {
            return NOTHING_THERE;
        }
        return within(i, 0, sheets.size[s] - 1) ? sheets.write(s, i, v) : OUTSIDE;
    }

    public int copy(int s, int i, int other, int j, int n) {
        if (!within(s, 0, Sheets.COUNT - 1) || !within(other, 0, Sheets.COUNT - 1)) {
            return BAD;
        }
        if (sheets.sort[s] == Sheets.MISSING || sheets.sort[other] == Sheets.MISSING) {
            return NOTHING_THERE;
        }
        if (sheets.sort[s] != sheets.sort[other]) {
            return UNLIKE;
        }
        if (!sheets.holds(s, i, n) || !sheets.holds(other, j, n)) {
            return OUTSIDE;
        }
        System.arraycopy(sheets.numbers[s], i, sheets.numbers[other], j, n);
        return n;
    }

    public int sayingsBy(int s, int sort, int at, int n) {
        if (!within(s, 0, Sheets.COUNT - 1) || !within(sort, 0, Sheets.INTS) || !within(n, 0, Rows.LIMIT)) {
            return BAD;
        }
        if (sheets.sort[s] == Sheets.MISSING) {
            return NOTHING_THERE;
        }
        if (sheets.sort[s] != sort) {
            return UNLIKE;
        }
        int[] numbers = sheets.numbers[s];
        int came = 0;
        for (int k = 0; k < n; k++) {
            int place = at + 3 * k;
            if (!sheets.holds(s, place, 3)) {
                return OUTSIDE;
            }
            if (say(numbers[place], numbers[place + 1], numbers[place + 2]) >= 0) {
                came++;
            }
        }
        return came;
    }

    public int taken(int i, int kind) {
        if (!within(kind, 0, KINDS)) {
            return BAD;
        }
        if (!within(i, 0, Words.LIMIT + Rows.LIMIT - 1)) {
            return OUTSIDE;
        }
        boolean isWord = i < Words.LIMIT;
        int number = isWord ? i : i - Words.LIMIT;
        if (number >= (isWord ? words.size : rows.size)) {
            return NOTHING_THERE;
        }
        if (isWord) {
            return kind == KINDS ? words.figures[number] : UNLIKE;
        }
        return kind < KINDS && rows.isOf(number, kind) ? number : UNLIKE;
    }

    // ---- what several use

    private static boolean within(int v, int least, int most) {
        return v >= least && v <= most;
    }

    private static boolean isShip(int ship) {
        return within(ship, 0, SHIPS - 1);
    }

    private static boolean isDay(int day) {
        return within(day, 0, LAST_DAY);
    }

    private static boolean isSpeed(int speed) {
        return within(speed, 0, TOP_SPEED);
    }

    /** Part 0 above, 1 below the line, in lowest terms; 0 by 0, when all is 0, becomes 0 by 1. */
    private static long lowest(long above, long below, int part) {
        long divisor = greatestDivisor(Math.abs(above), below);
        if (divisor == 0) {
            return part;
        }
        return (part == 0 ? above : below) / divisor;
    }

    private static long greatestDivisor(long a, long b) {
        long one = a;
        long other = b;
        // each two steps halve a number of 63 bits at least, so 126 steps are enough
        for (int k = 0; k < 130 && other != 0; k++) {
            long rest = one % other;
            one = other;
            other = rest;
        }
        return one;
    }

    /** All that is single numbers and that an image keeps: THE PASS, what THINGS are WORTH, which TEXT is THE LAW. */
    private static final class Pass {
        static final int VALUES = 6;
        static final int[] LEAST = {0, 0, -9, 0, 0, 1};
        static final int[] MOST = {20, 9, 9, 9, 4095, 12};

        // in the order of set(): NEAR, QUICK, WIND, NOISE, SAILS, MINUTES
        final int[] values = {4, 2, 0, 3, 0, 11};
        final int[] worth = {9, 7, 5, 3, 2, 1};
        int law;

        void becomeLike(Pass other) {
            System.arraycopy(other.values, 0, values, 0, VALUES);
            System.arraycopy(other.worth, 0, worth, 0, THINGS);
            law = other.law;
        }

        int near() {
            return values[0];
        }

        int wind() {
            return values[2];
        }

        int noise() {
            return values[3];
        }

        int minutes() {
            return values[5];
        }

        boolean hasMinute(int m) {
            return within(m, 0, minutes() - 1);
        }

        int sailIn(int m) {
            return values[4] >> m & 1;
        }

        int far(int near, int m) {
            return near + values[1] * Math.abs(2 * m - (minutes() - 1)) / 2;
        }

        int worthOf(int things) {
            int sum = 0;
            for (int t = 0; t < THINGS; t++) {
                if ((things >> t & 1) != 0) {
                    sum += worth[t];
                }
            }
            return sum;
        }
    }

    /** What back() brings again. */
    private static final class Image {
        private final Pass pass = new Pass();
        private final int[][] taken = new int[Words.LIMIT][Words.LIMIT];
        private int wordsThen;
        boolean there;

        void keep(Pass from, Words words) {
            pass.becomeLike(from);
            wordsThen = words.size;
            copyTaken(words.taken, taken);
            there = true;
        }

        void giveBack(Pass to, Words words) {
            to.becomeLike(pass);
            copyTaken(taken, words.taken);
        }

        // only among the WORDS that there were: TAKEN of and as later ones is to stay
        private void copyTaken(int[][] from, int[][] to) {
            for (int w = 0; w < wordsThen; w++) {
                System.arraycopy(from[w], 0, to[w], 0, wordsThen);
            }
        }
    }

    /** THE TAPE, and its bytes as TOKENS. */
    private static final class Tape {
        static final int LIMIT = 160;
        // a sign is its own byte; NAMES, KEYS and NUMBERS come from these on
        static final int END = 0, BROKEN = 1, NAME = 200, KEY = 300, NUMBER = 1000;
        static final int OR = KEY + 3, AND = KEY + 4, NOT = KEY + 5;
        private static final String NAMES = "far wind noise word sail minute ";
        private static final String KEYS = "had chalk takes or and not ";
        private static final String SIGNS = "();+-*<=";

        private final int[] bytes = new int[LIMIT];
        int size;
        // the last one is END, or BROKEN, which can stand nowhere: then nothing behind it matters
        final int[] tokens = new int[LIMIT + 1];
        final int[] places = new int[LIMIT + 1];
        int count;
        private int place;

        void put(int b) {
            if (size < LIMIT) {
                bytes[size] = b;
                size++;
            }
        }

        void cutUp() {
            count = 0;
            place = 0;
            boolean goesOn = true;
            while (goesOn && count <= LIMIT) {
                while (place < size && (bytes[place] == 32 || bytes[place] == 10)) {
                    place++;
                }
                places[count] = place;
                int token = place < size ? tokenAt(place) : END;
                tokens[count] = token;
                count++;
                goesOn = token != END && token != BROKEN;
            }
        }

        private int tokenAt(int start) {
            if (isLetter(bytes[start])) {
                while (place < size && isLetter(bytes[place])) {
                    place++;
                }
                return wordFrom(start);
            }
            if (isDigit(bytes[start])) {
                while (place < size && isDigit(bytes[place])) {
                    place++;
                }
                return numberFrom(start);
            }
            place++;
            return SIGNS.indexOf((char) bytes[start]) >= 0 ? bytes[start] : BROKEN;
        }

        private int wordFrom(int start) {
            int name = numberIn(NAMES, start);
            if (name >= 0) {
                return NAME + name;
            }
            int key = numberIn(KEYS, start);
            return key >= 0 ? KEY + key : BROKEN;
        }

        private int numberFrom(int start) {
            if (place - start > 4) {
                return BROKEN;
            }
            int number = 0;
            for (int i = start; i < place; i++) {
                number = 10 * number + bytes[i] - '0';
            }
            return NUMBER + number;
        }

        /** Which word of a list, each with a blank behind it, stands from start up to place; -1: none. */
        private int numberIn(String list, int start) {
            int which = 0;
            int from = 0;
            for (int i = 0; i < list.length(); i++) {
                if (list.charAt(i) == ' ') {
                    if (i - from == place - start && isSpelt(list, from, start)) {
                        return which;
                    }
                    which++;
                    from = i + 1;
                }
            }
            return -1;
        }

        private boolean isSpelt(String list, int from, int start) {
            for (int i = start; i < place; i++) {
                if (bytes[i] != list.charAt(from + i - start)) {
                    return false;
                }
            }
            return true;
        }

        private static boolean isLetter(int b) {
            return within(b, 'a', 'z');
        }

        private static boolean isDigit(int b) {
            return within(b, '0', '9');
        }
    }

    /** Reads a TEXT from THE TAPE, into steps for a stack of numbers. */
    private static final class Reader {
        // 0 .. 9999 put that number, -1 .. -6 put what a NAME stands for, these take from the stack
        static final int OR = -11, AND = -12, NOT = -13, LESS = -14, SAME = -15;
        static final int PLUS = -16, MINUS = -17, TIMES = -18, TURN = -19;
        private static final int LEVEL_OR = 0, LEVEL_AND = 1, LEVEL_NOT = 2, LEVEL_SUM = 3, LEVEL_ONE = 5;
        private static final int MOST_OPEN = 5;

        final Tape tape = new Tape();
        final int[] steps = new int[Tape.LIMIT];
        // part p has the steps from ends[p] on, up to ends[p + 1]
        final int[] ends = new int[Laws.PARTS + 1];
        private int written;
        private int at;
        private int fault;

        /** Reads THE TAPE and empties it; answers the place of the FAULT, or -1. */
        int readTape() {
            tape.cutUp();
            written = 0;
            at = 0;
            fault = -1;
            for (int part = 0; part < Laws.PARTS; part++) {
                ends[part] = written;
                expect(Tape.KEY + part);
                readLevel(LEVEL_OR, 0);
                expect(';');
            }
            ends[Laws.PARTS] = written;
            expect(Tape.END);
            tape.size = 0;
            return fault;
        }

        private int token() {
            return tape.tokens[at];
        }

        private void next() {
            if (at < tape.count - 1) {
                at++;
            }
        }

        // all tokens ahead of the one that is looked at could stand there, so the first fault is here
        private void fail() {
            if (fault < 0) {
                fault = tape.places[at];
            }
        }

        private void expect(int wanted) {
            if (fault < 0 && token() == wanted) {
                next();
            } else {
                fail();
            }
        }

        private void write(int step) {
            if (fault < 0 && written < steps.length) {
                steps[written] = step;
                written++;
            }
        }

        private void readLevel(int level, int open) {
            if (fault >= 0) {
                return;
            }
            if (level == LEVEL_NOT) {
                readComparison(open);
            } else if (level == LEVEL_ONE) {
                readOne(open);
            } else {
                readChain(level, open);
            }
        }

        private void readChain(int level, int open) {
            readLevel(level + 1, open);
            for (int k = 0; k < Tape.LIMIT && fault < 0 && joining(level) != 0; k++) {
                int step = joining(level);
                next();
                readLevel(level + 1, open);
                write(step);
            }
        }

        /** The step by which the token joins two of the next level; 0: it doesn't. */
        private int joining(int level) {
            int token = token();
            if (level == LEVEL_OR) {
                return token == Tape.OR ? OR : 0;
            }
            if (level == LEVEL_AND) {
                return token == Tape.AND ? AND : 0;
            }
            if (level == LEVEL_SUM) {
                return token == '+' ? PLUS : token == '-' ? MINUS : 0;
            }
            return token == '*' ? TIMES : 0;
        }

        private void readComparison(int open) {
            if (token() == Tape.NOT) {
                readOpened(LEVEL_NOT, open);
                write(NOT);
                return;
            }
            readLevel(LEVEL_SUM, open);
            int step = token() == '<' ? LESS : token() == '=' ? SAME : 0;
            if (step != 0) {
                next();
                readLevel(LEVEL_SUM, open);
                write(step);
            }
        }

        private void readOne(int open) {
            int token = token();
            if (token >= Tape.NUMBER) {
                write(token - Tape.NUMBER);
                next();
            } else if (token >= Tape.NAME && token < Tape.KEY) {
                write(Tape.NAME - 1 - token);
                next();
            } else if (token == '-') {
                readOpened(LEVEL_ONE, open);
                write(TURN);
            } else if (token == '(') {
                readOpened(LEVEL_OR, open);
                expect(')');
            } else {
                fail();
            }
        }

        /** Behind a ( , a not, a - : what belongs to it. */
        private void readOpened(int level, int open) {
            if (open >= MOST_OPEN) {
                fail();
            } else {
                next();
                readLevel(level, open + 1);
            }
        }
    }

    /** TEXTS, and what they say. */
    private static final class Laws {
        static final int LIMIT = 6, PARTS = 3, HAD = 0, CHALK = 1, TAKES = 2, NAMES = 6;
        private static final int[] LEAST = {0, 0, 1};
        private static final int[] MOST = {100, 100, 6};
        // had 95 - far * 4 + wind * 2 - noise * 3 - sail * 40 ; chalk 90 - far * 5 ; takes 1 ;
        private static final int[] FIRST = {
            95, -1, 4, Reader.TIMES, Reader.MINUS, -2, 2, Reader.TIMES, Reader.PLUS,
            -3, 3, Reader.TIMES, Reader.MINUS, -5, 40, Reader.TIMES, Reader.MINUS,
            90, -1, 5, Reader.TIMES, Reader.MINUS,
            1};
        private static final int[] FIRST_ENDS = {0, 17, 22, 23};

        final Reader reader = new Reader();
        // what the NAMES stand for, in the order in which the tape knows them
        final int[] names = new int[NAMES];
        int size = 1;
        private final int[][] steps = new int[LIMIT][Tape.LIMIT];
        private final int[][] ends = new int[LIMIT][PARTS + 1];
        private final int[] stack = new int[Tape.LIMIT];

        Laws() {
            System.arraycopy(FIRST, 0, steps[0], 0, FIRST.length);
            System.arraycopy(FIRST_ENDS, 0, ends[0], 0, FIRST_ENDS.length);
        }

        /** What was read last is the next TEXT. */
        int add() {
            System.arraycopy(reader.steps, 0, steps[size], 0, reader.steps.length);
            System.arraycopy(reader.ends, 0, ends[size], 0, reader.ends.length);
            size++;
            return size - 1;
        }

        int says(int text, int part) {
            int[] row = steps[text];
            int top = 0;
            for (int i = ends[text][part]; i < ends[text][part + 1]; i++) {
                int step = row[i];
                if (step >= -NAMES && top < stack.length) {
                    stack[top] = step >= 0 ? step : names[-1 - step];
                    top++;
                } else if (step == Reader.NOT || step == Reader.TURN) {
                    turnTop(step, top - 1);
                } else if (top >= 2) {
                    top--;
                    stack[top - 1] = ofTwo(step, stack[top - 1], stack[top]);
                }
            }
            return Math.max(LEAST[part], Math.min(MOST[part], stack[0]));
        }

        private void turnTop(int step, int place) {
            if (place >= 0) {
                int a = stack[place];
                stack[place] = step == Reader.TURN ? -a : a == 0 ? 1 : 0;
            }
        }

        private static int ofTwo(int step, int a, int b) {
            switch (step) {
                case Reader.OR: return a != 0 || b != 0 ? 1 : 0;
                case Reader.AND: return a != 0 && b != 0 ? 1 : 0;
                case Reader.LESS: return a < b ? 1 : 0;
                case Reader.SAME: return a == b ? 1 : 0;
                case Reader.PLUS: return a + b;
                case Reader.MINUS: return a - b;
                default: return a * b;
            }
        }
    }

    /** SAYINGS, and what ROWS of them are worth in THE PASS by THE LAW. */
    private static final class Rows {
        static final int LIMIT = 8, WHOLE = 1000000;
        private static final int SAYING = 0, ROWED = 1, FIGURED = 2, BACK = 3, BOARDED = 4, FLAGGED = 5;
        // the KIND above each KIND
        private static final int[] ABOVE = {SAYING, SAYING, SAYING, ROWED, SAYING, BOARDED};
        static final int ALL_TRIED = 5;
        private static final int MINUTES = 12, ORDERS_OF_FIVE = 120, ORDERS_OF_EIGHT = 40320;

        final Pass pass = new Pass();
        final Laws laws = new Laws();
        final int[] kind = new int[LIMIT];
        final int[] thing = new int[LIMIT];
        final int[] more = new int[LIMIT];
        int size;

        // of the last walk along a row: by SAYINGS, by THINGS, and how many ended in time
        final int[] begins = new int[LIMIT];
        final int[] had = new int[LIMIT];
        final int[] missed = new int[THINGS];
        int inTime;

        private final int[] order = new int[LIMIT];
        private final int[] found = new int[LIMIT];
        // what a SAYING is if begun in a MINUTE, at the place that learn() answers: orders are tried by
        // the hundred, and THE LAW is asked once; takes 0: not yet
        final int[] likely = new int[LIMIT * MINUTES];
        final int[] takes = new int[LIMIT * MINUTES];
        private int nearNow;

        int add(int ofKind, int ofThing, int withMore) {
            kind[size] = ofKind;
            thing[size] = ofThing;
            more[size] = withMore;
            size++;
            return size - 1;
        }

        boolean isOf(int i, int wanted) {
            return wanted == SAYING || kind[i] == wanted || ABOVE[kind[i]] == wanted;
        }

        boolean byMouth(int i) {
            return !isOf(i, BOARDED);
        }

        /** From here on with this NEAR, and with THE PASS and THE LAW as they are now. */
        void sailBy(int near) {
            nearNow = near;
            Arrays.fill(takes, 0);
        }

        int lawSays(int part, int m, int ofThing) {
            laws.names[0] = pass.far(nearNow, m);
            laws.names[1] = pass.wind();
            laws.names[2] = pass.noise();
            laws.names[3] = ofThing;
            laws.names[4] = pass.sailIn(m);
            laws.names[5] = m;
            return laws.says(pass.law, part);
        }

        /** Sees to it that it is known what a SAYING is, begun in a MINUTE; answers where that stands. */
        int learn(int i, int m) {
            int place = i * MINUTES + m;
            if (takes[place] == 0) {
                takes[place] = takesBy(lawSays(Laws.TAKES, m, thing[i]), i);
                likely[place] = likelyBy(lawSays(byMouth(i) ? Laws.HAD : Laws.CHALK, m, thing[i]), i, m);
            }
            return place;
        }

        private int likelyBy(int plain, int i, int m) {
            switch (kind[i]) {
                case ROWED: return rowed(plain, more[i]);
                case FIGURED: return figured(plain, more[i]);
                case BACK: return twice(rowed(plain, more[i]));
                case FLAGGED: return pass.far(nearNow, m) <= 2 * more[i] ? 100 : plain / 2;
                default: return plain;
            }
        }

        private static int rowed(int plain, int withMore) {
            return Math.min(100, plain + 3 * withMore);
        }

        private static int figured(int plain, int withMore) {
            int each = Math.min(100, plain + 10);
            int all = 100;
            for (int k = 0; k <= withMore; k++) {
                all = all * each / 100;
            }
            return all;
        }

        private static int twice(int p) {
            return p + (100 - p) * p / 100;
        }

        private int takesBy(int plain, int i) {
            switch (kind[i]) {
                case FIGURED: return plain + more[i] / 3;
                case BACK: return 2 * plain;
                case FLAGGED: return plain + 1;
                default: return plain;
            }
        }

        long worthAsTheyCame(int near) {
            sailBy(near);
            return walk(orderWithout(-1));
        }

        long worthWithout(int left) {
            return walk(orderWithout(left));
        }

        /** Sets the order in which all came but one; answers how many these are. */
        private int orderWithout(int left) {
            int n = 0;
            for (int i = 0; i < size; i++) {
                if (i != left) {
                    order[n] = i;
                    n++;
                }
            }
            return n;
        }

        long worthByNumbers(int[] numbers, int n) {
            if (n > size) {
                return NO;
            }
            int seen = 0;
            for (int k = 0; k < n; k++) {
                int i = numbers[k];
                if (!within(i, 0, size - 1) || (seen >> i & 1) != 0) {
                    return NO;
                }
                seen |= 1 << i;
                order[k] = i;
            }
            sailBy(pass.near());
            return walk(n);
        }

        /** Goes along the first n of the order; answers what that row is worth. */
        private long walk(int n) {
            Arrays.fill(begins, -1);
            Arrays.fill(had, 0);
            Arrays.fill(missed, WHOLE);
            inTime = 0;
            int minutes = pass.minutes();
            int now = 0;
            for (int k = 0; k < n && now < minutes; k++) {
                int i = order[k];
                begins[i] = now;
                int place = learn(i, now);
                int end = now + takes[place];
                if (end <= minutes) {
                    had[i] = likely[place];
                    missed[thing[i]] = missed[thing[i]] * (100 - had[i]) / 100;
                    inTime++;
                }
                now = end;
            }
            return worthHad();
        }

        private long worthHad() {
            long sum = 0;
            for (int t = 0; t < THINGS; t++) {
                sum += (long) (WHOLE - missed[t]) * pass.worth[t];
            }
            return sum;
        }

        long orderAsDigits() {
            long digits = 0;
            for (int k = 0; k < size; k++) {
                digits = 10 * digits + order[k] + 1;
            }
            return digits;
        }

        /** Sets the order, that in which all came, to THE BEST ROW's of a few; answers what that is worth. */
        long tryAllOrders() {
            long most = -1;
            boolean another = true;
            for (int k = 0; k < ORDERS_OF_FIVE && another; k++) {
                long worth = walk(size);
                if (worth > most) {
                    most = worth;
                    System.arraycopy(order, 0, found, 0, size);
                }
                another = nextOrder();
            }
            System.arraycopy(found, 0, order, 0, size);
            return most;
        }

        /** The next order by numbers from the first place on; false: there was none. */
        private boolean nextOrder() {
            int a = size - 2;
            while (a >= 0 && order[a] > order[a + 1]) {
                a--;
            }
            if (a < 0) {
                return false;
            }
            int b = size - 1;
            while (b > a && order[b] < order[a]) {
                b--;
            }
            exchange(a, b);
            for (int left = a + 1, right = size - 1; left < right; left++, right--) {
                exchange(left, right);
            }
            return true;
        }

        private void exchange(int a, int b) {
            int one = order[a];
            order[a] = order[b];
            order[b] = one;
        }

        /** Sets the order, that in which all came, to THE BEST ROW's of many; answers what that is worth. */
        long exchangeWhileBetter() {
            long most = walk(size);
            boolean better = true;
            // each round is worth more than the last, so no order comes twice
            for (int k = 0; k < ORDERS_OF_EIGHT && better; k++) {
                long before = most;
                most = bestExchange(before);
                better = most > before;
            }
            return most;
        }

        /** Makes the exchange that is worth most, if it is worth more than before; answers what the row is worth then. */
        private long bestExchange(long before) {
            long most = before;
            int one = 0;
            int other = 0;
            for (int a = 0; a < size; a++) {
                for (int b = a + 1; b < size; b++) {
                    exchange(a, b);
                    long worth = walk(size);
                    exchange(a, b);
                    if (worth > most) {
                        most = worth;
                        one = a;
                        other = b;
                    }
                }
            }
            exchange(one, other);
            return most;
        }

        int drawnSayings(int seed) {
            worthAsTheyCame(pass.near());
            long lot = seed + 1;
            int drawn = 0;
            for (int i = 0; i < size; i++) {
                if (had[i] >= 1) {
                    lot = lot * 48271 % 2147483647;
                    if (lot % 100 < had[i]) {
                        drawn |= 1 << i;
                    }
                }
            }
            return drawn;
        }

        int thingsOf(int sayings) {
            int things = 0;
            for (int i = 0; i < size; i++) {
                if ((sayings >> i & 1) != 0) {
                    things |= 1 << thing[i];
                }
            }
            return things;
        }
    }

    /** WORDS, and what they are taken for. */
    private static final class Words {
        static final int LIMIT = 6, FIGURES = 4;

        final int[] figures = new int[LIMIT];
        final int[][] taken = new int[LIMIT][LIMIT];
        private final int[] often = new int[LIMIT];
        int size;

        Words() {
            for (int w = 0; w < LIMIT; w++) {
                taken[w][w] = 10;
            }
        }

        int add(int withFigures, int saidOften) {
            figures[size] = withFigures;
            often[size] = saidOften;
            size++;
            return size - 1;
        }

        boolean has(int w) {
            return within(w, 0, size - 1);
        }

        /**
         * OFTEN times TAKEN by all TAKEN of it, times all TAKEN of every WORD, so that it is whole.
         * 99 * 99 * 594 ^ 5, six times, is still a long.
         */
        long weight(int said, int heard) {
            long product = often[said] * taken[said][heard];
            for (int w = 0; w < size; w++) {
                if (w != said) {
                    product *= Math.max(1, allTakenOf(w));
                }
            }
            return product;
        }

        long weightOfAll(int heard) {
            long sum = 0;
            for (int w = 0; w < size; w++) {
                sum += weight(w, heard);
            }
            return sum;
        }

        private int allTakenOf(int said) {
            int sum = 0;
            for (int w = 0; w < size; w++) {
                sum += taken[said][w];
            }
            return sum;
        }

        int likeliest(int heard) {
            int found = -1;
            long most = 0;
            for (int w = 0; w < size; w++) {
                long weight = weight(w, heard);
                if (weight > most) {
                    most = weight;
                    found = w;
                }
            }
            return found;
        }

        int clearestList(int n) {
            int found = 0;
            int least = -1;
            for (int list = 0; list < 1 << size; list++) {
                if (Integer.bitCount(list) == n) {
                    int muddle = muddle(list);
                    if (least < 0 || muddle < least) {
                        least = muddle;
                        found = list;
                    }
                }
            }
            return found;
        }

        int muddle(int list) {
            int sum = 0;
            for (int said = 0; said < size; said++) {
                for (int heard = 0; heard < size; heard++) {
                    if (said != heard && (list >> said & 1) != 0 && (list >> heard & 1) != 0) {
                        sum += taken[said][heard];
                    }
                }
            }
            return sum;
        }

        int fitting(int heard, int which) {
            int fit = 0;
            for (int w = 0; w < size; w++) {
                if (fits(figures[w], heard, which)) {
                    fit |= 1 << w;
                }
            }
            return fit;
        }

        private static boolean fits(int one, int heard, int which) {
            for (int place = 0; place < FIGURES; place++) {
                if ((which >> place & 1) != 0 && figure(one, place) != figure(heard, place)) {
                    return false;
                }
            }
            return true;
        }

        private static int figure(int of, int place) {
            int ahead = of;
            for (int k = place + 1; k < FIGURES; k++) {
                ahead /= 10;
            }
            return ahead % 10;
        }

        /** How many WORDS of a list have the same figure at a place, at most. */
        int mostAlike(int list, int place) {
            int most = 0;
            for (int f = 0; f < 10; f++) {
                int alike = 0;
                for (int w = 0; w < size; w++) {
                    if ((list >> w & 1) != 0 && figure(figures[w], place) == f) {
                        alike++;
                    }
                }
                most = Math.max(most, alike);
            }
            return most;
        }
    }

    /** REPORTS that the books in harbours print. */
    private static final class Books {
        static final int LIMIT = 10;

        final int[] ship = new int[LIMIT];
        final int[] day = new int[LIMIT];
        final int[] at = new int[LIMIT];
        final int[] book = new int[LIMIT];
        int size;
        // REPORTS (bits) at which a ship that was at this one could not be
        private final int[] clashes = new int[LIMIT];

        int add(int ofShip, int onDay, int inCell, int inBook) {
            ship[size] = ofShip;
            day[size] = onDay;
            at[size] = inCell;
            book[size] = inBook;
            size++;
            return size - 1;
        }

        /** REPORTS (bits) of one meeting with a report, itself too. */
        int meetingOf(int r) {
            int all = 1 << r;
            boolean grew = true;
            for (int k = 0; k < LIMIT && grew; k++) {
                int before = all;
                for (int i = 0; i < size; i++) {
                    if ((all >> i & 1) != 0) {
                        all |= closeTo(i);
                    }
                }
                grew = all != before;
            }
            return all;
        }

        private int closeTo(int r) {
            int close = 0;
            for (int i = 0; i < size; i++) {
                if (ship[i] == ship[r] && daysBetween(i, r) <= 1 && cellsBetween(i, r) <= 2) {
                    close |= 1 << i;
                }
            }
            return close;
        }

        private int daysBetween(int i, int j) {
            return Math.abs(day[i] - day[j]);
        }

        private int cellsBetween(int i, int j) {
            return Math.abs(at[i] - at[j]);
        }

        int meetingsOf(int ofShip) {
            int seen = 0;
            int n = 0;
            for (int r = 0; r < size; r++) {
                if (ship[r] == ofShip && (seen >> r & 1) == 0) {
                    seen |= meetingOf(r);
                    n++;
                }
            }
            return n;
        }

        private int reportsOf(int ofShip) {
            int all = 0;
            for (int r = 0; r < size; r++) {
                if (ship[r] == ofShip) {
                    all |= 1 << r;
                }
            }
            return all;
        }

        int falseOf(int ofShip, int speed) {
            findClashes(speed);
            int all = reportsOf(ofShip);
            int found = all;
            int fewest = Integer.bitCount(all);
            for (int some = 0; some < all; some++) {
                if ((some & ~all) == 0 && Integer.bitCount(some) < fewest && agree(all & ~some)) {
                    found = some;
                    fewest = Integer.bitCount(some);
                }
            }
            return found;
        }

        private void findClashes(int speed) {
            for (int i = 0; i < size; i++) {
                clashes[i] = 0;
                for (int j = 0; j < size; j++) {
                    if (cellsBetween(i, j) > speed * daysBetween(i, j)) {
                        clashes[i] |= 1 << j;
                    }
                }
            }
        }

        private boolean agree(int reports) {
            for (int r = 0; r < size; r++) {
                if ((reports >> r & 1) != 0 && (clashes[r] & reports) != 0) {
                    return false;
                }
            }
            return true;
        }

        private int trueOf(int ofShip, int speed) {
            return reportsOf(ofShip) & ~falseOf(ofShip, speed);
        }

        long cellsOf(int ofShip, int speed, int onDay) {
            int reports = trueOf(ofShip, speed);
            long cells = 0;
            for (int c = 0; c <= LAST_CELL; c++) {
                if (mayBe(reports, speed, onDay, c)) {
                    cells |= 1L << c;
                }
            }
            return cells;
        }

        private boolean mayBe(int reports, int speed, int onDay, int c) {
            for (int r = 0; r < size; r++) {
                if ((reports >> r & 1) != 0 && Math.abs(at[r] - c) > speed * Math.abs(day[r] - onDay)) {
                    return false;
                }
            }
            return true;
        }

        int latestTrue(int ofShip, int speed) {
            int reports = trueOf(ofShip, speed);
            int found = -1;
            for (int r = 0; r < size; r++) {
                if ((reports >> r & 1) != 0 && (found < 0 || day[r] > day[found])) {
                    found = r;
                }
            }
            return found;
        }
    }

    /** MEETINGS, and how news goes by them. */
    private static final class Meetings {
        static final int LIMIT = 24;
        private static final int NEVER = -1;

        private final int[] day = new int[LIMIT];
        private final int[] one = new int[LIMIT];
        private final int[] other = new int[LIMIT];
        int size;
        // by SHIPS: the DAY from which on each knows
        private final int[] knows = new int[SHIPS];

        int add(int onDay, int a, int b) {
            day[size] = onDay;
            one[size] = a;
            other[size] = b;
            size++;
            return size - 1;
        }

        int lastDay() {
            return size > 0 ? day[size - 1] : 0;
        }

        /** Lets all ships know that do by the meetings, but for one of these (-1: by all). */
        private void spread(int from, int onDay, int without) {
            Arrays.fill(knows, NEVER);
            knows[from] = onDay;
            for (int m = 0; m < size; m++) {
                if (m != without && day[m] >= onDay) {
                    int a = one[m];
                    int b = other[m];
                    if (knows[a] == NEVER && knows[b] != NEVER) {
                        knows[a] = day[m];
                    } else if (knows[b] == NEVER && knows[a] != NEVER) {
                        knows[b] = day[m];
                    }
                }
            }
        }

        int knowsFrom(int from, int onDay, int ship, int without) {
            spread(from, onDay, without);
            return knows[ship];
        }

        int howManyKnow(int from, int onDay, int by) {
            spread(from, onDay, -1);
            int n = 0;
            for (int s = 0; s < SHIPS; s++) {
                if (knows[s] != NEVER && knows[s] <= by) {
                    n++;
                }
            }
            return n;
        }

        int firstNeeded(int from, int onDay, int ship) {
            int with = knowsFrom(from, onDay, ship, -1);
            if (with == NEVER) {
                return -1;
            }
            for (int m = 0; m < size; m++) {
                int then = knowsFrom(from, onDay, ship, m);
                if (then == NEVER || then > with) {
                    return m;
                }
            }
            return -1;
        }
    }

    /** The host's rows of numbers. */
    private static final class Sheets {
        static final int COUNT = 4, LIMIT = 40;
        static final int MISSING = -1, BYTES = 0, SHORTS = 1, INTS = 2;

        final int[][] numbers = new int[COUNT][LIMIT];
        final int[] sort = {MISSING, MISSING, MISSING, MISSING};
        final int[] size = new int[COUNT];

        int renew(int s, int ofSort, int n) {
            Arrays.fill(numbers[s], 0);
            sort[s] = ofSort;
            size[s] = n;
            return 1;
        }

        int write(int s, int i, int v) {
            if (sort[s] == BYTES) {
                numbers[s][i] = (byte) v;
            } else {
                numbers[s][i] = sort[s] == SHORTS ? (short) v : v;
            }
            return 1;
        }

        boolean holds(int s, int from, int n) {
            return n >= 0 && from >= 0 && from <= size[s] - n;
        }
    }
}

/** Puts texts on the tape of an object. */
final class Tapes {
    private Tapes() {
    }

    /** Feeds all characters, eight at a time; answers what the last feed() answered. */
    static int feed(ThroughATrumpet x, String text) {
        int last = 0;
        for (int from = 0; from < text.length(); from += 8) {
            int n = Math.min(8, text.length() - from);
            long w = 0;
            for (int k = 0; k < n; k++) {
                w = w << 8 | text.charAt(from + k) & 255;
            }
            last = x.feed(w, n);
        }
        return last;
    }

    /** What text() answers to a text. */
    static int read(ThroughATrumpet x, String text) {
        feed(x, text);
        return x.text();
    }
}

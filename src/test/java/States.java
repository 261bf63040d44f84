import java.util.ArrayList;
import java.util.Arrays;
import java.util.List;

/** Runs of calls that lead to an object with nothing, with some, with as much as it can have; and one that looks at it all. */
final class States {
    static final List<String> NEW = List.of();
    static final List<String> SOME = some();
    static final List<String> FULL = full();
    static final List<String> LOOK = look();

    private States() {
    }

    private static void add(List<String> lines, String calls) {
        lines.addAll(Arrays.asList(calls.split("; ")));
    }

    private static void addText(List<String> lines, String text) {
        lines.addAll(Calls.feeds(text));
        lines.add("text");
    }

    private static List<String> some() {
        List<String> lines = new ArrayList<>();
        add(lines, "set 0 7; set 1 3; set 2 -4; set 3 5; set 4 37; set 5 9; want 0 11; want 3 44");
        addText(lines, "had 60-far+word*5;chalk 50+minute*3;takes 1;");
        addText(lines, "had 9+word;chalk 8;takes 2;");
        add(lines, "force 1; say 0 0 0; say 3 1 4; say 5 2 3; word 1234 6; word 234 4; word 1299 9");
        add(lines, "mistake 0 1 5; mistake 1 0 7; mistake 2 0 3; print 0 10 20 1; print 0 11 22 2; print 1 10 20 3");
        add(lines, "print 0 12 60 4; meet 5 0 1; meet 5 1 2; meet 9 2 3");
        add(lines, "sheet 0 0 3; cell 0 0 2; cell 0 1 0; cell 0 2 1");
        add(lines, "sheet 1 1 9; cell 1 0 1; cell 1 1 2; cell 1 2 3; cell 1 3 6; cell 1 6 2; cell 1 7 5; cell 1 8 9");
        add(lines, "sheet 2 2 2; cell 2 0 1; image");
        // THE IMAGE is to be told from what is now
        add(lines, "set 0 9; set 1 2; set 2 4; set 3 6; set 4 5; set 5 10; want 0 12; want 5 50; mistake 0 1 6");
        add(lines, "word 77 1; mistake 3 0 8; mistake 0 3 9; say 4 3 0; force 2");
        lines.addAll(Calls.feeds("had 7;chalk"));
        return lines;
    }

    private static List<String> full() {
        List<String> lines = new ArrayList<>();
        add(lines, "set 0 6; set 1 3; set 2 -3; set 3 4; set 4 1025; set 5 12; want 1 99; want 2 0");
        for (int t = 1; t <= 5; t++) {
            addText(lines, "had 4" + t + "+word;chalk " + t + ";takes " + (t + 1) / 2 + ";");
        }
        lines.add("force 1");
        for (int i = 0; i < 8; i++) {
            lines.add("say " + i % 6 + " " + (7 * i + 2) % 6 + " " + (i + 2));
        }
        for (int w = 0; w < 6; w++) {
            lines.add("word " + (1357 * w + 9) + " " + (9 - w));
            lines.add("mistake " + w + " " + w * w % (w + 1) + " " + (20 + w));
        }
        for (int r = 0; r < 10; r++) {
            lines.add("print " + r % 3 + " " + (100 + r * r % 7) + " " + (5 * r + 3) + " " + r);
        }
        for (int m = 0; m < 24; m++) {
            lines.add("meet " + (10 + 3 * m) + " " + m % 4 + " " + (m % 4 + 1 + m % 3) % 4);
        }
        add(lines, "sheet 0 0 3; cell 0 0 2; cell 0 1 0; cell 0 2 1; sheet 1 1 8");
        for (int i = 0; i < 8; i++) {
            lines.add("cell 1 " + i + " " + (3 * i + 5) % 8);
        }
        add(lines, "sheet 2 2 40; cell 2 0 3; cell 2 39 4; sheet 3 2 1; cell 3 0 7; image");
        add(lines, "set 0 5; set 2 3; set 3 2; set 4 7; want 1 98; want 4 20; mistake 5 1 6; mistake 5 5 31; force 5");
        lines.addAll(Calls.feeds("had 7;chalk 7;takes 4;" + " ".repeat(138)));
        return lines;
    }

    /** All that can be seen; what is only seen by changing it comes last. */
    private static List<String> look() {
        List<String> lines = new ArrayList<>();
        addEach(lines, "count ", 0, 12, "");
        addEach(lines, "pass ", 0, 11, "");
        addSayings(lines);
        addEach(lines, "told ", 0, 7, " 3 3");
        addEach(lines, "told ", 0, 7, " 3 4");
        addEach(lines, "run ", 0, 7, "");
        addEach(lines, "minute ", 0, 7, " 0");
        addEach(lines, "minute ", 0, 7, " 1");
        add(lines, "best 0; best 1; side; leave; drawn 5 1; list 2 0; list 2 1; odds 0 0 0; odds 0 1 1");
        addEach(lines, "taken ", 0, 5, " 6");
        addEach(lines, "was ", 0, 5, "");
        for (int what = 0; what < 4; what++) {
            addEach(lines, "printed ", 0, 9, " " + what);
            addEach(lines, "news " + what + " 7 ", 0, 3, "");
        }
        addEach(lines, "judge ", 0, 3, "");
        addValues(lines, 1);
        for (int sort = 0; sort < 3; sort++) {
            addEach(lines, "sayingsBy ", 0, 3, " " + sort + " 0 8");
        }
        addSayings(lines);
        lines.addAll(Calls.feeds(" 8;takes 3;"));
        lines.add("text");
        for (int t = 0; t < 6; t++) {
            lines.add("force " + t);
            addEach(lines, "asks ", 0, 2, " 2 1");
        }
        lines.add("back");
        addEach(lines, "count ", 0, 11, "");
        addValues(lines, 2);
        for (int s = 0; s < 4; s++) {
            addEach(lines, "cell " + s + " ", 0, 3, " 0");
            addEach(lines, "cell " + s + " ", 7, 9, " 0");
        }
        return lines;
    }

    private static void addSayings(List<String> lines) {
        for (int what = 0; what < 3; what++) {
            addEach(lines, "told ", 0, 7, " 0 " + what);
        }
    }

    /** WORTH and TAKEN, which are told as they are changed. */
    private static void addValues(List<String> lines, int v) {
        addEach(lines, "want ", 0, 5, " " + v);
        addEach(lines, "mistake 0 ", 0, 5, " " + v);
        addEach(lines, "mistake 5 ", 0, 5, " " + v);
        addEach(lines, "mistake ", 1, 3, " 0 " + v);
        addEach(lines, "mistake ", 1, 3, " 1 " + v);
        addEach(lines, "mistake ", 2, 4, " 2 " + v);
    }

    private static void addEach(List<String> lines, String ahead, int from, int to, String behind) {
        for (int k = from; k <= to; k++) {
            lines.add(ahead + k + behind);
        }
    }
}

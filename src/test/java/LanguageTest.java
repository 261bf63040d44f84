import java.io.IOException;
import java.lang.reflect.Constructor;
import java.lang.reflect.Field;
import java.lang.reflect.Method;
import java.lang.reflect.Modifier;
import java.nio.file.Files;
import java.nio.file.Path;
import java.util.Arrays;
import java.util.List;
import java.util.TreeSet;
import java.util.regex.Matcher;
import java.util.regex.Pattern;

/** The face of the document, and those rules of ../shared/LANGUAGE.md that a look at the file can tell. */
public final class LanguageTest {
    private static final Check check = new Check("LanguageTest");
    private static final String FACE = "set(II)I want(II)I count(I)I pass(I)I feed(JI)I text()I force(I)I asks(III)I "
            + "say(III)I told(III)I run(I)J minute(II)I judge(I)J best(I)J side()I leave()I word(II)I mistake(III)I "
            + "odds(III)J was(I)I list(II)I bits(II)I ask(III)I clocks(IIII)J print(IIII)I printed(II)I join(I)I met(I)I "
            + "falseOnes(II)I there(III)J last(III)I cellOdds(IIIJI)J meet(III)I news(III)I peace(III)I key(III)I "
            + "drawn(II)I image()I back()I sheet(III)I cell(III)I copy(IIIII)I sayingsBy(IIII)I taken(II)I";

    public static void main(String[] args) throws IOException, ReflectiveOperationException {
        face();
        classesInside();
        words(Files.readString(Path.of("src/main/java/ThroughATrumpet.java")));
        check.end();
    }

    private static void face() throws ReflectiveOperationException {
        Class<?> c = ThroughATrumpet.class;
        check.due("public and final", c.getModifiers(), Modifier.PUBLIC | Modifier.FINAL);
        TreeSet<String> due = new TreeSet<>(Arrays.asList(FACE.split(" ")));
        check.due("45 promises, one of them the constructor", due.size(), 44);
        TreeSet<String> names = new TreeSet<>();
        for (Method m : c.getDeclaredMethods()) {
            if (Modifier.isPublic(m.getModifiers())) {
                check.holds("of the face: " + form(m), due.remove(form(m)));
                names.add(m.getName());
            }
        }
        check.due("missing of the face: " + due, due.size(), 0);
        for (Method m : c.getDeclaredMethods()) {
            if (!Modifier.isPublic(m.getModifiers())) {
                check.holds(m.getName() + " is private", Modifier.isPrivate(m.getModifiers()));
                check.holds(m.getName() + " has a name of its own", !names.contains(m.getName()));
            }
        }
        TreeSet<String> constants = new TreeSet<>(List.of("NONE", "BAD", "STATE", "FULL", "NO"));
        for (Field f : c.getDeclaredFields()) {
            boolean ofFace = constants.remove(f.getName());
            check.due("field " + f.getName(), Modifier.isPublic(f.getModifiers()) ? 1 : 0, ofFace ? 1 : 0);
            check.holds("field " + f.getName(), ofFace || Modifier.isPrivate(f.getModifiers()));
        }
        check.due("missing constants: " + constants, constants.size(), 0);
        values(c);
        Constructor<?>[] all = c.getDeclaredConstructors();
        check.due("one constructor", all.length, 1);
        check.due("it is public", all[0].getModifiers(), Modifier.PUBLIC);
        check.due("without parameters", all[0].getParameterCount(), 0);
    }

    // asked for at run time: a constant that is named is put in when the test is compiled
    private static void values(Class<?> c) throws ReflectiveOperationException {
        String[] names = {"NONE", "BAD", "STATE", "FULL"};
        for (int k = 0; k < names.length; k++) {
            Field f = c.getField(names[k]);
            check.holds(names[k] + " is an int", f.getType() == int.class && Modifier.isFinal(f.getModifiers()));
            check.due(names[k], f.getInt(null), -1 - k);
        }
        Field no = c.getField("NO");
        check.holds("NO is a long", no.getType() == long.class && Modifier.isFinal(no.getModifiers()));
        check.due("NO", no.getLong(null), -4611686018427387904L);
    }

    private static String form(Method m) {
        StringBuilder form = new StringBuilder(m.getName()).append('(');
        for (Class<?> p : m.getParameterTypes()) {
            form.append(p.descriptorString());
        }
        return form.append(')').append(m.getReturnType().descriptorString()).toString();
    }

    private static void classesInside() {
        Class<?>[] inside = ThroughATrumpet.class.getDeclaredClasses();
        check.holds("some twelve classes", inside.length + 1 <= 12);
        for (Class<?> c : inside) {
            check.holds(c + " is private and static",
                    Modifier.isPrivate(c.getModifiers()) && Modifier.isStatic(c.getModifiers()));
            int fields = 0;
            for (Field f : c.getDeclaredFields()) {
                boolean isStatic = Modifier.isStatic(f.getModifiers());
                fields += isStatic ? 0 : 1;
                check.holds(f + ", static, is final", !isStatic || Modifier.isFinal(f.getModifiers()));
            }
            check.holds(c + " has some twenty fields", fields <= 20);
            for (Method m : c.getDeclaredMethods()) {
                check.holds(m + " takes at most seven", m.getParameterCount() <= 7);
                check.holds(m + " bears no name of the face", !FACE.matches("(^|.* )" + m.getName() + "\\(.*"));
            }
        }
    }

    private static void words(String source) {
        check.holds("signs 1 to 126 alone", source.chars().allMatch(sign -> sign >= 1 && sign < 127));
        String code = source.replaceAll("(?s)/\\*.*?\\*/", "").replaceAll("//[^\\n]*", "").replaceAll("\"[^\"\\n]*\"", "\"\"");
        String[] none = {"throw", "throws", "try", "catch", "finally", "synchronized", "assert", "package", "double", "float",
            "System\\.(?!arraycopy)\\w+", "new Random", "Thread", "Exact", "hashCode", "toString", "equals", "protected",
            "->", "::", "volatile", "native", "static \\{"};
        for (String word : none) {
            String whole = word.matches("\\w+") ? "\\b" + word + "\\b" : word;
            Matcher m = Pattern.compile(whole).matcher(code);
            check.holds("no " + word, !m.find());
        }
        Matcher imports = Pattern.compile("import ([\\w.]+);").matcher(code);
        while (imports.find()) {
            check.holds("import of " + imports.group(1), imports.group(1).equals("java.util.Arrays"));
        }
        int begun = 0;
        int line = 0;
        for (String text : source.split("\n")) {
            line++;
            if (text.matches(" {4}( {4})?\\w.*\\) \\{")) {
                begun = line;
            }
            if (text.matches(" {4}( {4})?\\}") && begun > 0) {
                check.holds("the method at line " + begun + " is short", line - begun < 60);
                begun = 0;
            }
        }
    }
}

import java.lang.reflect.Constructor;
import java.lang.reflect.Field;
import java.lang.reflect.Method;
import java.lang.reflect.Modifier;
import java.nio.file.Files;
import java.nio.file.Path;
import java.util.ArrayList;
import java.util.HashSet;
import java.util.List;
import java.util.Set;
import java.util.TreeSet;
import java.util.regex.Matcher;
import java.util.regex.Pattern;

/** The document's face, and those rules of LANGUAGE.md that a look at the class or its text can tell. */
public final class FaceTest {
    private static final Check check = new Check("FaceTest");
    private static final String SOURCE = "src/main/java/BirthdayLot.java";
    private static final String[] FACE = {"feed1", "town0", "fault0", "told1", "person2", "ticket2", "right1", "draw1", "lots1",
        "sell2", "pawn2", "price2", "undo1", "odds2", "never2", "buy4", "evens2", "couples2", "see1", "belief1", "likeliest0",
        "candles2", "rows2", "sure1", "write1", "judge0", "ageBy1", "tear0", "seed1", "keep1", "goBack1"};

    public static void main(String[] args) throws Exception {
        constants();
        face();
        classesInside();
        words();
        check.end();
    }

    private static void constants() {
        check.due("NONE", BirthdayLot.NONE, -1);
        check.due("UNKNOWN", BirthdayLot.UNKNOWN, -1000000001);
        check.due("OUTSIDE", BirthdayLot.OUTSIDE, -1000000002);
        check.due("NOT", BirthdayLot.NOT, -1000000003);
        check.due("FULL", BirthdayLot.FULL, -1000000004);
    }

    private static void face() {
        Class<?> c = BirthdayLot.class;
        check.isTrue("public and final", Modifier.isPublic(c.getModifiers()) && Modifier.isFinal(c.getModifiers()));
        Set<String> due = new TreeSet<>(List.of(FACE));
        Set<String> got = new TreeSet<>();
        Set<String> names = new HashSet<>();
        for (String one : FACE) names.add(one.substring(0, one.length() - 1));
        for (Method m : c.getDeclaredMethods()) {
            if (m.isSynthetic()) continue;
            if (Modifier.isPrivate(m.getModifiers())) {
                check.isTrue("private " + m.getName() + " has a name of its own", !names.contains(m.getName()));
                continue;
            }
            got.add(m.getName() + m.getParameterCount());
            check.isTrue(m.getName() + " is public, of ints", Modifier.isPublic(m.getModifiers()) && m.getReturnType() == int.class);
        }
        check.isTrue("methods " + got, got.equals(due));
        Set<String> fields = new TreeSet<>();
        for (Field f : c.getDeclaredFields()) if (!Modifier.isPrivate(f.getModifiers())) fields.add(f.getName());
        check.isTrue("constants " + fields, fields.equals(new TreeSet<>(List.of("NONE", "UNKNOWN", "OUTSIDE", "NOT", "FULL"))));
        Constructor<?>[] made = c.getDeclaredConstructors();
        check.isTrue("one constructor", made.length == 1 && made[0].getParameterCount() == 0);
    }

    private static void classesInside() {
        List<Class<?>> all = new ArrayList<>(List.of(BirthdayLot.class.getDeclaredClasses()));
        check.isTrue("some twelve classes", all.size() + 1 <= 12);
        all.add(BirthdayLot.class);
        for (Class<?> c : all) {
            if (c != BirthdayLot.class) check.isTrue(c + " is static", Modifier.isStatic(c.getModifiers()));
            int fields = 0;
            for (Field f : c.getDeclaredFields()) {
                if (Modifier.isStatic(f.getModifiers())) check.isTrue(f + " is final", Modifier.isFinal(f.getModifiers()));
                else fields++;
            }
            check.isTrue(c + " has some twenty fields", fields <= 20);
            for (Method m : c.getDeclaredMethods()) check.isTrue(m + " takes seven at most", m.getParameterCount() <= 7);
        }
    }

    private static void words() throws Exception {
        String all = Files.readString(Path.of(SOURCE));
        for (int i = 0; i < all.length(); i++) check.isTrue("sign " + i, all.charAt(i) < 128);
        String code = all.replaceAll("(?s)/\\*.*?\\*/", "").replaceAll("//[^\n]*", "");
        String[] barred = {"throw", "throws", "try", "catch", "finally", "synchronized", "assert", "double", "float", "package",
            "native", "volatile", "transient", "Object", "System\\.out", "Exact", "hashCode", "toString", "protected"};
        for (String word : barred) check.isTrue("no " + word, !Pattern.compile("\\b" + word + "\\b").matcher(code).find());
        check.isTrue("no lambda, no method reference", !code.contains("->") && !code.contains("::"));
        Matcher imports = Pattern.compile("import ([^;]*);").matcher(code);
        while (imports.find()) check.isTrue("import " + imports.group(1), imports.group(1).equals("java.util.Arrays"));
        Matcher methods = Pattern.compile("(?m)^ +(?:public |private |static |final )*[\\w\\[\\]]+ \\w+\\([^)]*\\) \\{(?s:.*?)^ +\\}$").matcher(code);
        while (methods.find()) check.isTrue("short: " + methods.group(), methods.group().split("\n").length <= 60);
        // What is put into a final field is made in a constructor, so no call makes anything.
        for (String line : code.split("\n")) {
            if (!line.contains("new ")) continue;
            Matcher made = Pattern.compile("^ +(\\w+) = new .*;$").matcher(line);
            check.isTrue("made once: " + line, made.find() && code.matches("(?s).* final [\\w\\[\\]]+ " + made.group(1) + ";.*"));
        }
    }
}

import java.io.File;
import java.io.IOException;
import java.lang.reflect.Method;
import java.lang.reflect.Modifier;
import java.nio.file.Files;
import java.nio.file.Path;
import java.util.regex.Matcher;
import java.util.regex.Pattern;

/** README.md as it stands: its example answers as it says, and it names every call and every test that there is. */
public final class ReadmeTest {
    private static final Check check = new Check("ReadmeTest");

    public static void main(String[] args) throws IOException {
        String page = Files.readString(Path.of("README.md"));
        example(page);
        calls(page);
        tests(page);
        check.end();
    }

    private static void example(String page) {
        Matcher block = Pattern.compile("(?s)```java\n(.*?)```").matcher(page);
        check.isTrue("an example", block.find());
        String code = block.group(1);
        Matcher text = Pattern.compile("String text = \"([^\"]*)\";").matcher(code);
        check.isTrue("a text", text.find());
        BirthdayLot lot = new BirthdayLot();
        Check.feedAll(lot, text.group(1));
        int answers = 0;
        for (String line : code.split("\n")) {
            Matcher call = Pattern.compile("^int \\w+ = lot\\.(\\w+)\\(([^)]*)\\); *// *(-?\\d+)\\b").matcher(line);
            if (!call.find()) {
                check.isTrue("no answer is told: " + line, !line.startsWith("int "));
                continue;
            }
            check.due(line, Calls.ask(lot, call.group(1), numbers(call.group(2))), Integer.parseInt(call.group(3)));
            answers++;
        }
        check.isTrue("an example with answers", answers > 9);
    }

    private static int[] numbers(String list) {
        if (list.isEmpty()) return new int[0];
        String[] parts = list.split(", ");
        int[] all = new int[parts.length];
        for (int i = 0; i < parts.length; i++) all[i] = Integer.parseInt(parts[i]);
        return all;
    }

    private static void calls(String page) {
        for (Method method : BirthdayLot.class.getDeclaredMethods()) {
            if (!Modifier.isPublic(method.getModifiers())) continue;
            Matcher call = Pattern.compile("`" + method.getName() + "\\(([^)]*)\\)`").matcher(page);
            boolean told = call.find();
            check.isTrue("README.md tells " + method.getName(), told);
            if (told) check.due("what is asked of " + method.getName(), call.group(1).isEmpty() ? 0 : call.group(1).split(",").length, method.getParameterCount());
        }
    }

    private static void tests(String page) {
        File[] files = new File("src/test/java").listFiles();
        check.isTrue("tests", files != null && files.length > 0);
        int named = 0;
        for (File file : files == null ? new File[0] : files) {
            String name = file.getName().replace(".java", "");
            check.isTrue("README.md tells of " + name, page.contains("| `" + name + "` |"));
            named++;
        }
        Matcher rows = Pattern.compile("\\| `\\w+Test` \\|").matcher(page);
        int rowCount = 0;
        while (rows.find()) rowCount++;
        check.due("tests that README.md tells of", rowCount, named);
    }
}

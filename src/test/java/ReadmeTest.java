import java.io.IOException;
import java.lang.reflect.Method;
import java.lang.reflect.Modifier;
import java.nio.file.Files;
import java.nio.file.Path;
import java.util.ArrayList;
import java.util.List;
import java.util.regex.Matcher;
import java.util.regex.Pattern;

/** README.md held against the class: its example answers as it says, and it names every call of the face. */
public final class ReadmeTest {
    private static final Pattern ROW = Pattern.compile("(q\\.\\w+\\([^;]*\\)); +// (-?\\d+)\\b.*");
    private static int wrong = 0;

    private static void hold(boolean so, String what) {
        if (!so) {
            wrong++;
            System.out.println("not so: " + what);
        }
    }

    /** The rows of the example, each of which has to tell an answer: the call, then the answer. */
    private static List<String[]> rowsOf(String page) {
        List<String[]> rows = new ArrayList<>();
        for (String line : page.split("\n")) {
            Matcher m = ROW.matcher(line);
            if (m.matches()) {
                rows.add(new String[] {m.group(1), m.group(2)});
            } else {
                hold(!line.startsWith("q."), "the row tells an answer: " + line);
            }
        }
        return rows;
    }

    private static int of(QuayBrands q, String call) throws ReflectiveOperationException {
        String name = call.substring(2, call.indexOf('('));
        String inside = call.substring(call.indexOf('(') + 1, call.length() - 1);
        String[] words = inside.isEmpty() ? new String[0] : inside.split(", ");
        Object[] values = new Object[words.length];
        Class<?>[] types = new Class<?>[words.length];
        for (int i = 0; i < words.length; i++) {
            boolean isFlag = words[i].equals("true") || words[i].equals("false");
            types[i] = isFlag ? boolean.class : int.class;
            if (isFlag) {
                values[i] = Boolean.valueOf(words[i]);
            } else {
                values[i] = Integer.valueOf(words[i]);
            }
        }
        return (Integer) QuayBrands.class.getMethod(name, types).invoke(q, values);
    }

    private static void example(String page) throws ReflectiveOperationException {
        Matcher text = Pattern.compile("String act = \"([^\"]+)\";").matcher(page);
        hold(text.find(), "the example begins with the text of an act");
        QuayBrands q = new QuayBrands();
        String act = text.group(1);
        for (int i = 0; i < act.length(); i++) {
            q.say(act.charAt(i));
        }
        List<String[]> rows = rowsOf(page);
        hold(rows.size() >= 20, "the example has rows: " + rows.size());
        for (String[] row : rows) {
            int answer = of(q, row[0]);
            hold(answer == Integer.parseInt(row[1]), row[0] + " answers " + row[1] + ", but it is " + answer);
        }
    }

    private static void names(String page) {
        for (Method m : QuayBrands.class.getDeclaredMethods()) {
            if (Modifier.isPublic(m.getModifiers())) {
                hold(page.contains("`" + m.getName() + "`"), "the page names " + m.getName());
            }
        }
    }

    public static void main(String[] args) throws IOException, ReflectiveOperationException {
        String page = Files.readString(Path.of("README.md"));
        example(page);
        names(page);
        for (String test : new java.io.File("src/test/java").list()) {
            hold(page.contains(test), "the page names the test " + test);
        }
        System.out.println(wrong == 0 ? "the page is as the class" : wrong + " things are not so");
        if (wrong != 0) {
            System.exit(1);
        }
    }
}

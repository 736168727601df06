import java.io.IOException;
import java.lang.reflect.Constructor;
import java.lang.reflect.Field;
import java.lang.reflect.Method;
import java.lang.reflect.Modifier;
import java.nio.file.Files;
import java.nio.file.Path;
import java.util.ArrayList;
import java.util.Arrays;
import java.util.List;
import java.util.Set;
import java.util.TreeSet;
import java.util.regex.Pattern;

/** The class against the document's face and against those rules of LANGUAGE.md that its text and its fields tell. */
public final class FaceTest {
    private static final String[] METHODS = {"say(int)", "wipe()", "fault()", "act(int)", "brand(int,int,int)", "grade(int,int)",
        "set(int,int,int)", "rule(int,int)", "land(int,int,int,int,int)", "lead(int,int)", "landing(int,int)",
        "salt(int,int,int,int)", "barrel(int,int,int)", "filled(int,int,int,int)", "open(int,int,int)",
        "judge(int,int,int,boolean)", "absolve()", "cause(int)", "explained()", "rival(int,int)", "engage(int,int,int,int)",
        "free(int,int,int)", "freeOn(int,int)", "cost(int,int,int,int)", "account(int,int,int)", "spread(int)", "settle()",
        "ship(int,int,int)", "price(int,int,int,int)", "priceOn(int,int,int)", "load(int,int,int,int)", "told(int)"};
    private static int wrong = 0;

    private static void hold(boolean so, String what) {
        if (!so) {
            wrong++;
            System.out.println("not so: " + what);
        }
    }

    private static String signature(Method m) {
        List<String> types = new ArrayList<>();
        for (Class<?> t : m.getParameterTypes()) {
            types.add(t.getName());
        }
        return m.getName() + "(" + String.join(",", types) + ")";
    }

    private static void face() {
        Class<?> c = QuayBrands.class;
        hold(Modifier.isPublic(c.getModifiers()) && Modifier.isFinal(c.getModifiers()), "the class is public and final");
        Set<String> open = new TreeSet<>();
        Set<String> names = new TreeSet<>();
        for (Method m : c.getDeclaredMethods()) {
            if (Modifier.isPublic(m.getModifiers())) {
                open.add(signature(m));
                names.add(m.getName());
                hold(m.getReturnType() == int.class && !Modifier.isStatic(m.getModifiers()), m + " answers an int");
            }
        }
        hold(open.equals(new TreeSet<>(Arrays.asList(METHODS))), "the public methods are the document's: " + open);
        hold(c.getDeclaredConstructors().length == 1, "one constructor");
        for (Constructor<?> k : c.getDeclaredConstructors()) {
            hold(Modifier.isPublic(k.getModifiers()) && k.getParameterCount() == 0, "it is public, of no parameters");
        }
        for (Method m : c.getDeclaredMethods()) {
            boolean isPrivate = Modifier.isPrivate(m.getModifiers());
            hold(isPrivate || Modifier.isPublic(m.getModifiers()), m + " is private");
            hold(!isPrivate || !names.contains(m.getName()), m + " bears a name of its own");
        }
        List<String> constants = List.of("NONE", "UNKNOWN", "OUTSIDE", "STATE", "FULL", "NO");
        for (Field f : c.getDeclaredFields()) {
            hold(constants.contains(f.getName()) == Modifier.isPublic(f.getModifiers()), f + " is public only as a constant of the face");
            hold(Modifier.isPublic(f.getModifiers()) || Modifier.isPrivate(f.getModifiers()), f + " is private");
        }
        hold(QuayBrands.NONE == -6 && QuayBrands.UNKNOWN == -1 && QuayBrands.OUTSIDE == -2, "the constants");
        hold(QuayBrands.STATE == -3 && QuayBrands.FULL == -4 && QuayBrands.NO == -5, "the constants");
        inside(c, names);
    }

    private static void inside(Class<?> c, Set<String> names) {
        hold(c.getDeclaredClasses().length < 12, "some twelve classes at most");
        for (Class<?> n : c.getDeclaredClasses()) {
            hold(Modifier.isStatic(n.getModifiers()) && !Modifier.isPublic(n.getModifiers()), n + " is static");
            int fields = 0;
            for (Field f : n.getDeclaredFields()) {
                hold(!Modifier.isStatic(f.getModifiers()) || Modifier.isFinal(f.getModifiers()), f + " is final");
                fields += Modifier.isStatic(f.getModifiers()) ? 0 : 1;
            }
            hold(fields <= 20, n + " has some twenty fields at most");
            for (Method m : n.getDeclaredMethods()) {
                hold(!names.contains(m.getName()), m + " bears a name of its own");
                hold(m.getParameterCount() <= 7, m + " takes seven parameters at most");
            }
        }
    }

    private static void text() throws IOException {
        String source = Files.readString(Path.of("src/main/java/QuayBrands.java"));
        String code = source.replaceAll("(?s)/\\*.*?\\*/", "").replaceAll("//[^\n]*", "");
        String[] ruledOut = {"\\bimport\\b", "\\bpackage\\b", "\\btry\\b", "\\bcatch\\b", "\\bfinally\\b", "\\bthrow\\b", "->", "::",
            "\\bsynchronized\\b", "\\bassert\\b", "\\bdouble\\b", "\\bfloat\\b", "\\bSystem\\.(?!arraycopy\\()",
            "\\bInteger\\.(?!bitCount\\()", "\\bMath\\.(?!max\\(|min\\()", "Exact\\(", "\\bstatic\\s*\\{",
            "\\bwhile\\s*\\(true", "\\bfor\\s*\\(;;", "\\binstanceof\\b", "\\bequals\\b", "\\bhashCode\\b", "\\btoString\\b", "\""};
        for (String rule : ruledOut) {
            hold(!Pattern.compile(rule).matcher(code).find(), "the text has no " + rule);
        }
        for (int i = 0; i < source.length(); i++) {
            hold(source.charAt(i) < 127, "plain sign at " + i);
        }
        makesNothingInCalls(code);
    }

    /** Objects and rows are made in constructors alone: a method's head has a type ahead of its name, a constructor's none. */
    private static void makesNothingInCalls(String code) {
        boolean constructs = false;
        for (String line : code.split("\n")) {
            if (line.matches(" {4,8}(public )?[A-Z]\\w*\\(\\) \\{")) {
                constructs = true;
            } else if (line.matches(" {4,8}[a-z].*\\) \\{")) {
                constructs = false;
            }
            hold(constructs || !line.contains("new "), "made outside a constructor: " + line);
        }
    }

    public static void main(String[] args) throws IOException {
        face();
        text();
        System.out.println(wrong == 0 ? "the face is as told" : wrong + " things are not so");
        if (wrong != 0) {
            System.exit(1);
        }
    }
}

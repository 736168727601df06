import java.lang.reflect.InvocationTargetException;
import java.lang.reflect.Method;
import java.util.Arrays;
import java.util.Comparator;

/** Calls of any arguments in any state, up to an object filled to all its limits: none throws. */
public final class WildTest {
    private static final int[] ODD = {Integer.MIN_VALUE, Integer.MIN_VALUE + 1, -2001, -7, -6, -5, -2, -1, 0, 1, 2, 3, 4, 5, 9, 10, 11,
        20, 21, 29, 30, 31, 59, 60, 65, 99, 100, 400, 401, 1000, 1001, 1500, 2000, 2001, 20000, 20001, Integer.MAX_VALUE - 1, Integer.MAX_VALUE};
    private static long seed = 7;
    private static int wrong = 0;

    private static int upTo(int n) {
        seed = seed * 6364136223846793005L + 1442695040888963407L;
        return (int) ((seed >>> 33) % n);
    }

    private static Object argument(Class<?> type, int wildness) {
        if (type == boolean.class) {
            return upTo(2) == 0;
        }
        return upTo(10) < wildness ? ODD[upTo(ODD.length)] : upTo(6);
    }

    private static void sayAll(QuayBrands x, String text) {
        for (int i = 0; i < text.length(); i++) {
            x.say(text.charAt(i));
        }
    }

    /** Takes some 430 of the 512 calls. */
    private static QuayBrands fullest() {
        QuayBrands x = new QuayBrands();
        x.rule(1, 100);
        x.set(0, 0, 9);
        x.set(0, 1, 2000);
        for (int a = 0; a < 8; a++) {
            sayAll(x, a < 7 ? "F:h<3;A:t>0" : "F:h<3,z>4;A:h<5,t>0;B:s<50;C:q=1;D:z=2;E:h<9999,h<9,q<8888");
            x.act(a);
        }
        sayAll(x, "A".repeat(60));
        for (int i = 0; i < 60; i++) {
            x.free(i, 1000, i % 3);
            x.price(i % 2, i, 1000, i % 3);
        }
        for (int i = 0; i < 30; i++) {
            x.land(i % 10, i % 6 == 5 ? -1 : 0, i, 20000, 9);
        }
        for (int i = 0; i < 24; i++) {
            x.judge(i % 3, i % 10, i % 7, true);
        }
        for (int i = 0; i < 12; i++) {
            x.salt(i % 4, i, 1, 1);
        }
        for (int i = 0; i < 10; i++) {
            x.engage(i, 0, 50, 1000);
            x.ship(i % 4, 400, 20);
        }
        return x;
    }

    private static int call(QuayBrands x, Method m, int wildness) throws IllegalAccessException {
        Object[] arguments = new Object[m.getParameterCount()];
        for (int i = 0; i < arguments.length; i++) {
            arguments[i] = argument(m.getParameterTypes()[i], wildness);
        }
        try {
            return (Integer) m.invoke(x, arguments);
        } catch (InvocationTargetException e) {
            wrong++;
            System.out.println(m.getName() + Arrays.toString(arguments) + " threw " + e.getCause());
            return 0;
        }
    }

    private static void limits() {
        QuayBrands x = fullest();
        int[] due = {60, 8, 30, 5, 12, 24, 60, 60};
        for (int i = 0; i < due.length; i++) {
            if (x.told(i) != due[i]) {
                wrong++;
                System.out.println("fullest: told(" + i + ") answered " + x.told(i) + ", due is " + due[i]);
            }
        }
        if (x.cost(0, 0, 0, 2) != 60000 || x.settle() != 5 || x.told(8) != 0 || x.told(9) != 6000) {
            wrong++;
            System.out.println("fullest: the fish, the settled, the spoilt or the barrels are not as due");
        }
    }

    public static void main(String[] args) throws IllegalAccessException {
        Method[] all = QuayBrands.class.getDeclaredMethods();
        Method[] face = Arrays.stream(all).filter(m -> java.lang.reflect.Modifier.isPublic(m.getModifiers()))
            .sorted(Comparator.comparing(Method::getName)).toArray(Method[]::new);
        int calls = 0;
        for (int run = 0; run < 600 && wrong < 20; run++) {
            boolean full = run % 3 != 0;
            QuayBrands x = full ? fullest() : new QuayBrands();
            for (int c = full ? 430 : 0; c < 512; c++) {
                call(x, face[upTo(face.length)], run % 10);
                calls++;
            }
        }
        limits();
        System.out.println(calls + " wild calls, " + wrong + " wrong");
        if (wrong != 0) {
            System.exit(1);
        }
    }
}

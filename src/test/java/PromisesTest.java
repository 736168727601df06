import java.util.function.IntSupplier;

/** Each promise by its number: ordinary inputs, the edges that the document names, wrong inputs. */
public final class PromisesTest {
    private static final int NONE = -6, UNKNOWN = -1, OUTSIDE = -2, FULL = -4, NO = -5;
    private static final int MIN = Integer.MIN_VALUE, MAX = Integer.MAX_VALUE;
    private static int wrong = 0;
    private static int looked = 0;

    private static void due(int promise, String what, int got, int want) {
        looked++;
        if (got != want) {
            wrong++;
            System.out.println("promise " + promise + ": " + what + " answered " + got + ", due is " + want);
        }
    }

    /** A refused call changes nothing of what told() tells. */
    private static void refused(int promise, QuayBrands x, String what, IntSupplier call, int want) {
        int[] ahead = tellings(x);
        due(promise, what, call.getAsInt(), want);
        int[] behind = tellings(x);
        for (int i = 0; i < ahead.length; i++) {
            due(promise, what + " then told(" + i + ")", behind[i], ahead[i]);
        }
    }

    private static int[] tellings(QuayBrands x) {
        int[] all = new int[10];
        for (int i = 0; i < all.length; i++) {
            all[i] = x.told(i);
        }
        return all;
    }

    private static void sayAll(QuayBrands x, String text) {
        for (int i = 0; i < text.length(); i++) {
            x.say(text.charAt(i));
        }
    }

    private static int faultOf(String text) {
        QuayBrands x = new QuayBrands();
        sayAll(x, text);
        return x.fault();
    }

    private static QuayBrands withAct(String text, int day) {
        QuayBrands x = new QuayBrands();
        sayAll(x, text);
        due(5, "act of " + text, x.act(day), 1);
        return x;
    }

    private static String times(String part, int n) {
        return part.repeat(n);
    }

    private static void promise1() {
        QuayBrands x = new QuayBrands();
        for (int i = 0; i < 10; i++) {
            due(1, "told(" + i + ")", x.told(i), 0);
        }
        due(1, "spread(-1)", x.spread(-1), 0);
        int[] firsts = {24, 800, 40, 10, 1000, 5, 4};
        for (int i = 0; i < firsts.length; i++) {
            due(1, "rule(" + i + ")", x.rule(i, firsts[i]), firsts[i]);
        }
        for (int q = 0; q < 4; q++) {
            due(1, "crews of " + q, x.set(q, 0, 1), 1);
            due(1, "rate of " + q, x.set(q, 1, 500), 500);
            due(1, "barrels of " + q, x.barrel(q, -1, 0), 0);
        }
        due(1, "freeOn", x.freeOn(0, 400), 10);
        due(1, "priceOn", x.priceOn(1, 400, 400), 0);
        x.price(0, 0, 7, 0);
        due(1, "ships bear nothing", x.load(20, 20, 0, -1), 0);
        x.land(0, 0, 0, 1000, 1);
        due(1, "not engaged", x.cost(0, 0, 0, 1), 0);
        due(1, "a second object stands alone", new QuayBrands().told(2), 0);
    }

    private static void promise2() {
        QuayBrands x = new QuayBrands();
        refused(2, x, "say(32)", () -> x.say(32), OUTSIDE);
        refused(2, x, "say(127)", () -> x.say(127), OUTSIDE);
        refused(2, x, "say(MIN)", () -> x.say(MIN), OUTSIDE);
        refused(2, x, "say(MAX)", () -> x.say(MAX), OUTSIDE);
        for (int i = 1; i <= 60; i++) {
            due(2, "sign " + i, x.say(i % 2 == 0 ? 33 : 126), i);
        }
        refused(2, x, "the 61st sign", () -> x.say(65), FULL);
        refused(2, x, "the 61st, outside", () -> x.say(0), OUTSIDE);
    }

    private static void promise3() {
        QuayBrands x = new QuayBrands();
        due(3, "wipe of none", x.wipe(), 0);
        sayAll(x, "A:h<1");
        due(3, "wipe", x.wipe(), 5);
        due(3, "none are left", x.told(0), 0);
        due(3, "wipe again", x.wipe(), 0);
        sayAll(x, times("x", 60));
        due(3, "wipe of sixty", x.wipe(), 60);
        due(3, "room again", x.say(65), 1);
    }

    private static void promise4() {
        String[] whole = {"A:h<1", "F:q=0", "A:t>9999", "A:h<0000", "B:z=1,z=1,h<3;A:s>10",
            "A:h<1;B:h<1;C:h<1;D:h<1;E:h<1;F:h<1", "F:h<1,t>2,s=3,z=4,q=5"};
        for (String text : whole) {
            due(4, text, faultOf(text), NONE);
        }
        String[] broken = {"", "A", "A:", "A:h", "A:h<", "A:h<1,", "A:h<1;", "G:h<1", "a:h<1", "A;h<1", "A:x<1", "A:A<1",
            "A:h-1", "A:h<x", "A:h<12345", "A:h<1:", "A:h<1A", "A:h<1;A", "A:h<1;B:h<1;A:h<1", "A:h<<1", "A:h<1,,", "A:h<1;;",
            "A:h<1,B:h<1", "A:h<1;B:h<1;C:h<1;D:h<1;E:h<1;F:h<1;", "A:h<1;B:h<1;C:h<1;D:h<1;E:h<1;F:h<1;x", "A:h<1 "};
        int[] places = {0, 1, 2, 3, 4, 6, 6, 0, 0, 1, 2, 2,
            3, 4, 8, 5, 5, 6, 12, 4, 6, 6,
            6, 35, 35, NONE};
        for (int i = 0; i < broken.length; i++) {
            due(4, broken[i], faultOf(broken[i]), places[i]);
        }
        due(4, "sixty signs, whole", faultOf("A:h<1" + times(",t>2", 13) + "999"), NONE);
        due(4, "sixty signs, not whole", faultOf("A:h<1" + times(",t>2", 13) + "99,"), 60);
    }

    private static void promise5() {
        QuayBrands x = new QuayBrands();
        refused(5, x, "act(-1)", () -> x.act(-1), OUTSIDE);
        refused(5, x, "act(401)", () -> x.act(401), OUTSIDE);
        refused(5, x, "act of no signs", () -> x.act(0), NO);
        for (int i = 1; i <= 8; i++) {
            sayAll(x, "A:h<9");
            due(5, "act " + i, x.act(i == 1 ? 0 : 400), i);
            due(5, "signs are empty then", x.told(0), 0);
        }
        refused(5, x, "a ninth act with a fault", () -> x.act(3), FULL);
        sayAll(x, "A:h<9");
        refused(5, x, "a ninth act", () -> x.act(3), FULL);
        refused(5, x, "a ninth act, outside", () -> x.act(401), OUTSIDE);
        QuayBrands y = new QuayBrands();
        sayAll(y, "A:h<");
        refused(5, y, "an act with a fault", () -> y.act(0), NO);
        y.say('7');
        due(5, "mended", y.act(0), 1);
    }

    private static int brandBy(String text) {
        QuayBrands x = withAct(text, 0);
        x.land(0, 2, 3, 800, 6);
        x.salt(2, 0, 4, 77);
        return x.brand(2, 0, 0);
    }

    private static void promise6() {
        // The one barrel: most hours 1, tiers 20, salt 77, least size 6, quay 2.
        String[] texts = {"A:h=1", "A:h<1", "A:h<2", "A:h>0", "A:h>1", "B:t=20", "B:t<20", "B:t>19", "C:s=77", "C:s>77",
            "C:s<0078", "D:z=6", "D:z>6", "E:q=2", "E:q<2", "F:q>1", "A:h=1,t=20,s=77,z=6,q=2", "A:h=1,t=20,s=77,z=6,q=3",
            "A:h=0;B:h=1", "F:h=1;A:h=1", "A:h=1,z=5;C:z=6,h=2;B:q=2", "A:h=0,h=1", "A:h=1,h=0"};
        int[] brands = {0, NONE, 0, 0, NONE, 1, NONE, 1, 2, NONE,
            2, 3, NONE, 4, NONE, 5, 0, NONE,
            1, 5, 1, NONE, NONE};
        for (int i = 0; i < texts.length; i++) {
            due(6, texts[i], brandBy(texts[i]), brands[i]);
        }
        QuayBrands x = withAct("A:h<9", 5);
        sayAll(x, "B:h<9");
        x.act(3);
        sayAll(x, "C:h<9");
        x.act(5);
        x.land(0, 0, 0, 800, 1);
        int[] byDay = {NONE, NONE, NONE, 1, 1, 2, 2};
        for (int d = 0; d < byDay.length; d++) {
            due(6, "the act of day " + d, x.brand(0, 0, d), byDay[d]);
        }
        due(6, "the last day", x.brand(0, 0, 400), 2);
        due(6, "quay 4", x.brand(4, 0, 0), UNKNOWN);
        due(6, "quay -1", x.brand(-1, 0, 0), UNKNOWN);
        due(6, "barrel 1", x.brand(0, 1, 401), UNKNOWN);
        due(6, "barrel -1", x.brand(0, -1, 0), UNKNOWN);
        due(6, "barrel MAX", x.brand(0, MAX, 0), UNKNOWN);
        due(6, "day 401", x.brand(0, 0, 401), OUTSIDE);
        due(6, "day -1", x.brand(0, 0, -1), OUTSIDE);
    }

    private static void promise7() {
        QuayBrands x = withAct("C:h<1,z>2;A:t=3;F:q=0,q=1,q=2", 10);
        due(7, "no act yet", x.grade(9, -1), 0);
        due(7, "none of no act", x.grade(9, 0), NONE);
        due(7, "how many", x.grade(10, -1), 3);
        int[] order = {2, 0, 5};
        for (int i = 0; i < 3; i++) {
            due(7, "grade " + i, x.grade(400, i), order[i]);
        }
        due(7, "grade 3", x.grade(10, 3), NONE);
        due(7, "grade -2", x.grade(10, -2), NONE);
        due(7, "grade MIN", x.grade(10, MIN), NONE);
        due(7, "grade MAX", x.grade(10, MAX), NONE);
        due(7, "day 401", x.grade(401, -1), OUTSIDE);
        due(7, "day -1", x.grade(-1, 9), OUTSIDE);
        sayAll(x, "B:h<1");
        x.act(10);
        due(7, "of one day the last told", x.grade(10, -1), 1);
        due(7, "its grade", x.grade(10, 0), 1);
    }

    private static void promise8() {
        QuayBrands x = new QuayBrands();
        due(8, "crews", x.set(3, 0, 9), 1);
        due(8, "crews again", x.set(3, 0, 1), 9);
        due(8, "rate", x.set(3, 1, 2000), 500);
        due(8, "rate again", x.set(3, 1, 1), 2000);
        int[][] outside = {{0, 0}, {0, 10}, {1, 0}, {1, 2001}, {2, 1}, {-1, 1}, {0, MIN}, {1, MAX}};
        for (int[] o : outside) {
            refused(8, x, "set(3, " + o[0] + ", " + o[1] + ")", () -> x.set(3, o[0], o[1]), OUTSIDE);
        }
        due(8, "set(4, 9, 9)", x.set(4, 9, 9), UNKNOWN);
        due(8, "set(-1, 0, 1)", x.set(-1, 0, 1), UNKNOWN);
        due(8, "the rate stands", x.set(3, 1, 5), 1);
        x.set(0, 0, 3);
        x.set(0, 1, 100);
        x.land(0, 0, 4, 700, 1);
        due(8, "three hours of 300", x.landing(0, 6), 6);
    }

    private static void promise9() {
        QuayBrands x = new QuayBrands();
        int[] lowest = {1, 100, 1, 0, 500, 0, 0};
        int[] highest = {72, 1500, 100, 50, 1500, 100, 100};
        int[] was = {24, 800, 40, 10, 1000, 5, 4};
        for (int i = 0; i < 7; i++) {
            int which = i;
            due(9, "lowest of " + i, x.rule(i, lowest[i]), was[i]);
            due(9, "highest of " + i, x.rule(i, highest[i]), lowest[i]);
            refused(9, x, "below " + i, () -> x.rule(which, lowest[which] - 1), OUTSIDE);
            refused(9, x, "above " + i, () -> x.rule(which, highest[which] + 1), OUTSIDE);
            due(9, "still " + i, x.rule(i, was[i]), highest[i]);
        }
        due(9, "rule(-1)", x.rule(-1, 1), OUTSIDE);
        due(9, "rule(7)", x.rule(7, 1), OUTSIDE);
        due(9, "rule(MIN)", x.rule(MIN, MIN), OUTSIDE);
    }

    private static void promise10() {
        QuayBrands x = new QuayBrands();
        due(10, "first", x.land(9, 3, 2000, 20000, 9), 0);
        due(10, "second", x.land(0, -1, 0, 1, 1), 1);
        int[][] unknown = {{-1, 0, 0, 1, 1}, {10, 0, 0, 1, 1}, {0, 4, 0, 1, 1}, {0, -2, 0, 1, 1}, {10, 0, -1, 0, 0}};
        for (int[] u : unknown) {
            refused(10, x, "an unknown one", () -> x.land(u[0], u[1], u[2], u[3], u[4]), UNKNOWN);
        }
        int[][] outside = {{0, 0, -1, 1, 1}, {0, 0, 2001, 1, 1}, {0, 0, 0, 0, 1}, {0, 0, 0, 20001, 1}, {0, 0, 0, 1, 0}, {0, 0, 0, 1, 10}};
        for (int[] o : outside) {
            refused(10, x, "outside", () -> x.land(o[0], o[1], o[2], o[3], o[4]), OUTSIDE);
        }
        for (int i = 2; i < 6; i++) {
            due(10, "waiting " + i, x.land(0, -1, 0, 1, 1), i);
        }
        refused(10, x, "a sixth that waits", () -> x.land(0, -1, 0, 1, 1), NO);
        refused(10, x, "a sixth that waits, outside", () -> x.land(0, -1, 0, 1, 0), OUTSIDE);
        for (int i = 6; i < 30; i++) {
            due(10, "landing " + i, x.land(1, 0, 100, 5, 5), i);
        }
        refused(10, x, "a 31st", () -> x.land(0, 0, 0, 1, 1), FULL);
        refused(10, x, "a 31st that waits", () -> x.land(0, -1, 0, 1, 1), FULL);
        refused(10, x, "a 31st, outside", () -> x.land(0, 0, 0, 1, 0), OUTSIDE);
        refused(10, x, "a 31st, unknown", () -> x.land(10, 0, 0, 1, 0), UNKNOWN);
    }

    private static void promise11() {
        QuayBrands x = new QuayBrands();
        for (int i = 0; i < 6; i++) {
            x.land(0, i == 5 ? 1 : -1, 0, 700, 1);
        }
        refused(11, x, "a sixth that waits", () -> x.lead(5, -1), NO);
        refused(11, x, "landing 6", () -> x.lead(6, -1), UNKNOWN);
        refused(11, x, "landing -1", () -> x.lead(-1, 0), UNKNOWN);
        refused(11, x, "quay 4", () -> x.lead(0, 4), UNKNOWN);
        refused(11, x, "quay -2", () -> x.lead(0, -2), UNKNOWN);
        for (int i = 0; i < 5; i++) {
            due(11, "one of the five waits on " + i, x.lead(i, -1), -1);
        }
        due(11, "still five wait", x.told(3), 5);
        refused(11, x, "a sixth that waits, still", () -> x.lead(5, -1), NO);
        due(11, "to a quay", x.lead(0, 3), -1);
        due(11, "to wait", x.lead(5, -1), 1);
        due(11, "its quay", x.landing(0, 1), 3);
        due(11, "its last hour", x.landing(0, 6), 1);
        due(11, "to the same", x.lead(0, 3), 3);
        due(11, "waits", x.landing(5, 1), -1);
        due(11, "how many wait", x.told(3), 5);
        due(11, "one that came to wait waits on", x.lead(5, -1), -1);
        refused(11, x, "one that went to a quay, back", () -> x.lead(0, -1), NO);
    }

    private static void promise12() {
        QuayBrands x = new QuayBrands();
        x.rule(0, 2);
        x.land(7, 2, 50, 1200, 8);
        x.land(8, 2, 49, 900, 3);
        x.land(9, -1, 1, 40, 2);
        int[][] rows = {{7, 2, 50, 1200, 8, 600, 51}, {8, 2, 49, 900, 3, 0, 50}, {9, -1, 1, 40, 2, 0, NONE}};
        for (int i = 0; i < rows.length; i++) {
            for (int what = 0; what < 7; what++) {
                due(12, "landing(" + i + ", " + what + ")", x.landing(i, what), rows[i][what]);
            }
        }
        due(12, "what 7", x.landing(0, 7), OUTSIDE);
        due(12, "what -1", x.landing(0, -1), OUTSIDE);
        due(12, "landing 3", x.landing(3, 9), UNKNOWN);
        due(12, "landing -1", x.landing(-1, 0), UNKNOWN);
        x.rule(0, 1);
        x.set(2, 1, 1);
        due(12, "one fish an hour", x.landing(1, 5), 899);
        due(12, "its hour", x.landing(1, 6), 49);
        x.land(1, 2, 50, 10, 1);
        due(12, "none was worked", x.landing(3, 6), NONE);
        due(12, "all are spoilt", x.landing(3, 5), 10);
        QuayBrands y = new QuayBrands();
        y.rule(0, 72);
        y.land(0, 0, 2000, 20000, 1);
        due(12, "hours go on beyond 2000", y.landing(0, 6), 2039);
    }

    private static void promise13() {
        QuayBrands x = new QuayBrands();
        x.land(0, 1, 10, 2000, 1);
        due(13, "later one", x.salt(1, 12, 5, 60), 1);
        due(13, "earlier one", x.salt(1, 11, 6, 61), 2);
        due(13, "other quay", x.salt(0, 0, 9, 100), 3);
        int[][] due = {{11, 6, 61}, {13, 5, 60}};
        for (int i = 0; i < due.length; i++) {
            due(13, "done", x.barrel(1, i, 0), due[i][0]);
            due(13, "lot", x.barrel(1, i, 4), due[i][1]);
            due(13, "salt", x.barrel(1, i, 3), due[i][2]);
        }
        x.salt(1, 11, 7, 1);
        due(13, "of one hour the last told", x.barrel(1, 0, 4), 7);
        int[][] outside = {{-1, 0, 1}, {2001, 0, 1}, {0, -1, 1}, {0, 10, 1}, {0, 0, 0}, {0, 0, 101}};
        for (int[] o : outside) {
            refused(13, x, "outside", () -> x.salt(0, o[0], o[1], o[2]), OUTSIDE);
        }
        refused(13, x, "quay 4", () -> x.salt(4, 0, 0, 0), UNKNOWN);
        for (int i = 5; i <= 12; i++) {
            due(13, "telling " + i, x.salt(i % 4, 2000, 0, 1), i);
        }
        refused(13, x, "a 13th", () -> x.salt(0, 0, 0, 1), FULL);
        refused(13, x, "a 13th, outside", () -> x.salt(0, 0, 0, 0), OUTSIDE);
    }

    private static void promise14() {
        QuayBrands x = new QuayBrands();
        x.rule(1, 1500);
        x.rule(2, 7);
        x.land(0, 3, 4, 700, 9);
        x.land(1, 3, 2, 600, 5);
        x.land(2, 3, 9, 1699, 7);
        due(14, "how many", x.barrel(3, -1, 0), 1);
        // Landing 1 in hours 2, 3; landing 0 in 4, 5; of landing 2 the last 200 in hour 9.
        int[] row = {9, 1, 214, 50, 0, 5, 3};
        for (int what = 0; what < 7; what++) {
            due(14, "barrel(3, 0, " + what + ")", x.barrel(3, 0, what), row[what]);
        }
        due(14, "barrel 1", x.barrel(3, 1, 0), UNKNOWN);
        due(14, "barrel -2", x.barrel(3, -2, 7), UNKNOWN);
        due(14, "quay 4", x.barrel(4, -1, 0), UNKNOWN);
        due(14, "what 7", x.barrel(3, 0, 7), OUTSIDE);
        due(14, "what -1 of all", x.barrel(3, -1, -1), OUTSIDE);
        x.land(3, 3, 100, 1, 1);
        due(14, "one fish more fills the second", x.barrel(3, -1, 6), 2);
        due(14, "done by it", x.barrel(3, 1, 0), 100);
        due(14, "parts", x.barrel(3, 1, 6), 2);
        due(14, "least size", x.barrel(3, 1, 5), 1);
        due(14, "most hours", x.barrel(3, 1, 1), 3);
        QuayBrands y = new QuayBrands();
        y.rule(1, 100);
        y.set(0, 0, 9);
        y.set(0, 1, 2000);
        for (int i = 0; i < 30; i++) {
            y.land(0, 0, 10 * i, 20000, 1);
        }
        due(14, "the most there can be", y.barrel(0, -1, 0), 6000);
        due(14, "the last of them", y.barrel(0, 5999, 0), 291);
        QuayBrands z = new QuayBrands();
        for (int size = 9; size > 6; size--) {
            z.land(0, 0, 0, 800, size);
        }
        for (int i = 0; i < 3; i++) {
            due(14, "a landing for a barrel, parts of " + i, z.barrel(0, i, 6), 1);
            due(14, "its size", z.barrel(0, i, 5), 9 - i);
            due(14, "beyond the last", z.barrel(0, 3, 0), UNKNOWN);
        }
    }

    private static void promise15() {
        QuayBrands x = withAct("B:z>3", 1);
        x.land(0, 0, 0, 800, 9);
        x.land(0, 0, 30, 2400, 5);
        x.land(0, 0, 60, 800, 3);
        // Day 0 knows no act; of quality are those done in hours 31, 33, 34; the last one's size is 3.
        due(15, "none yet", x.filled(0, 1, 270, 0), 0);
        due(15, "one of them", x.filled(0, 1, 271, 0), 0);
        due(15, "what is left of it", x.filled(0, 1, 271, 1), 720);
        due(15, "two of them", x.filled(0, 1, 273, 0), 1);
        due(15, "over", x.filled(0, 1, 273, 1), 640);
        due(15, "all of them", x.filled(0, 1, 2000, 0), 2);
        due(15, "over of all", x.filled(0, 1, 2000, 1), 560);
        due(15, "another grade", x.filled(0, 0, 2000, 1), 0);
        x.rule(3, 0);
        due(15, "nothing lost", x.filled(0, 1, 2000, 0), 3);
        due(15, "nothing over", x.filled(0, 1, 2000, 1), 0);
        x.rule(1, 107);
        x.rule(3, 49);
        // 3200 fish behind the first 800 on day 0: what is lost is 52 of 107, cut.
        int some = 0;
        for (int i = 0; i < x.barrel(0, -1, 0); i++) {
            some += x.brand(0, i, x.barrel(0, i, 0) / 24) == 1 ? 1 : 0;
        }
        due(15, "cut for each", x.filled(0, 1, 2000, 0), some * 55 / 107);
        due(15, "over, cut for each", x.filled(0, 1, 2000, 1), some * 55 % 107);
        due(15, "quay 4", x.filled(4, 0, -1, 0), UNKNOWN);
        due(15, "grade 6", x.filled(0, 6, -1, 0), UNKNOWN);
        due(15, "grade -6", x.filled(0, -6, 0, 0), UNKNOWN);
        due(15, "hour 2001", x.filled(0, 0, 2001, 0), OUTSIDE);
        due(15, "hour -1", x.filled(0, 0, -1, 0), OUTSIDE);
        due(15, "what 2", x.filled(0, 0, 0, 2), OUTSIDE);
        due(15, "what -1", x.filled(0, 0, 0, -1), OUTSIDE);
    }

    private static void promise16() {
        QuayBrands x = new QuayBrands();
        due(16, "one of one", x.open(1, 1, 0), 1);
        due(16, "one of 30 for no risk", x.open(30, 1, 0), 30);
        due(16, "one of 10, half", x.open(10, 1, 50), 5);
        due(16, "one of 10, a hundredth less", x.open(10, 1, 49), 6);
        due(16, "29 of 30", x.open(30, 29, 0), 2);
        due(16, "29 of 30, 4 hundredths", x.open(30, 29, 4), 1);
        due(16, "29 of 30, 3 hundredths", x.open(30, 29, 3), 2);
        due(16, "99 hundredths", x.open(30, 1, 99), 1);
        int[][] outside = {{0, 1, 0}, {31, 1, 0}, {5, 0, 0}, {5, 6, 0}, {5, 1, -1}, {5, 1, 100}, {MAX, MAX, 0}, {MIN, MIN, 0}};
        for (int[] o : outside) {
            due(16, "outside", x.open(o[0], o[1], o[2]), OUTSIDE);
        }
    }

    private static void promise17() {
        QuayBrands x = new QuayBrands();
        int[][] outside = {{-1, 0, 0}, {10, 0, 0}, {0, -1, 0}, {0, 10, 0}, {0, 0, -1}, {0, 0, 10}};
        for (int[] o : outside) {
            refused(17, x, "outside", () -> x.judge(o[0], o[1], o[2], true), OUTSIDE);
        }
        for (int i = 1; i <= 24; i++) {
            due(17, "barrel " + i, x.judge(9, 0, i % 10, i > 22), i);
        }
        refused(17, x, "a 25th", () -> x.judge(0, 0, 0, true), FULL);
        refused(17, x, "a 25th, outside", () -> x.judge(10, 0, 0, true), OUTSIDE);
        due(17, "two rejects among 24", x.explained(), NONE);
    }

    private static void promise18() {
        QuayBrands x = new QuayBrands();
        due(18, "none", x.absolve(), 0);
        x.judge(1, 1, 1, true);
        x.judge(1, 1, 1, true);
        due(18, "two", x.absolve(), 2);
        due(18, "none are left", x.told(5), 0);
        due(18, "no cause is left", x.cause(1), 0);
        x.judge(1, 2, 2, true);
        due(18, "one reject alone", x.cause(1), 0);
        due(18, "a new first", x.judge(1, 3, 3, true), 2);
        due(18, "two again", x.cause(1), 1);
    }

    private static void promise19() {
        QuayBrands x = new QuayBrands();
        x.judge(0, 9, 4, true);
        due(19, "one reject", x.cause(0), 0);
        x.judge(0, 9, 5, true);
        due(19, "crew 0", x.cause(0), 1);
        due(19, "lot 9", x.cause(19), 1);
        due(19, "sixes 4", x.cause(24), 0);
        due(19, "lot 0", x.cause(10), 0);
        x.judge(1, 9, 9, false);
        due(19, "another barrel has lot 9", x.cause(19), 0);
        due(19, "crew 0 still", x.cause(0), 1);
        x.judge(2, 2, 9, true);
        x.judge(2, 2, 9, true);
        due(19, "sixes 9 has a good one", x.cause(29), 0);
        int[] outside = {-1, 30, MIN, MAX};
        for (int o : outside) {
            due(19, "cause(" + o + ")", x.cause(o), OUTSIDE);
        }
    }

    private static void judgePairs(QuayBrands x, int pairs) {
        for (int i = 0; i < pairs; i++) {
            x.judge(i, 2 * i, 2 * i, true);
            x.judge(i, 2 * i + 1, 2 * i + 1, true);
        }
    }

    private static void promise20() {
        int[] fewest = {0, 1, 2, 3, NONE};
        for (int pairs = 0; pairs < fewest.length; pairs++) {
            QuayBrands x = new QuayBrands();
            judgePairs(x, pairs);
            due(20, pairs + " pairs", x.explained(), fewest[pairs]);
        }
        QuayBrands y = new QuayBrands();
        y.judge(1, 1, 1, false);
        due(20, "no reject", y.explained(), 0);
        y.judge(2, 2, 2, true);
        due(20, "one reject, no cause", y.explained(), NONE);
    }

    private static void promise21() {
        QuayBrands x = new QuayBrands();
        due(21, "the set of none", x.rival(-1, 5), 1);
        due(21, "its cause 0", x.rival(0, 0), NONE);
        judgePairs(x, 3);
        due(21, "how many", x.rival(-1, -9), 1);
        for (int k = 0; k < 3; k++) {
            due(21, "cause " + k, x.rival(0, k), k);
        }
        due(21, "cause 3", x.rival(0, 3), NONE);
        due(21, "cause -1", x.rival(0, -1), NONE);
        due(21, "rival 1", x.rival(1, 0), NONE);
        due(21, "rival -2", x.rival(-2, 0), NONE);
        due(21, "rival MAX", x.rival(MAX, 0), NONE);
        due(21, "rival MIN", x.rival(MIN, MIN), NONE);
        judgePairs(x, 4);
        due(21, "three do not do", x.rival(-1, 0), 0);
        due(21, "none of them", x.rival(0, 0), NONE);
        x.absolve();
        x.judge(3, 4, 5, true);
        x.judge(3, 4, 5, true);
        int[] ones = {3, 14, 25};
        due(21, "three of one", x.rival(-1, 0), 3);
        for (int i = 0; i < 3; i++) {
            due(21, "rival " + i, x.rival(i, 0), ones[i]);
        }
        x.judge(6, 7, 8, true);
        x.judge(6, 7, 9, true);
        int[][] twos = {{3, 6}, {3, 17}, {6, 14}, {6, 25}, {14, 17}, {17, 25}};
        due(21, "six of two", x.rival(-1, 0), 6);
        for (int i = 0; i < twos.length; i++) {
            due(21, "rival " + i + ", 0", x.rival(i, 0), twos[i][0]);
            due(21, "rival " + i + ", 1", x.rival(i, 1), twos[i][1]);
            due(21, "rival " + i + ", 2", x.rival(i, 2), NONE);
        }
    }

    private static void promise22() {
        QuayBrands x = new QuayBrands();
        x.land(4, 2, 0, 3000, 1);
        due(22, "engaged", x.engage(4, 2, 2, 100), 1);
        due(22, "its cost", x.cost(4, 2, 0, 0), 210);
        int[][] unknown = {{-1, 0}, {10, 0}, {0, 4}, {0, -2}};
        for (int[] u : unknown) {
            refused(22, x, "unknown", () -> x.engage(u[0], u[1], 99, 1), UNKNOWN);
        }
        int[][] outside = {{2, -1, 1}, {2, 51, 1}, {2, 1, 0}, {2, 1, 1001}, {-1, 51, 1}, {-1, 0, 0}};
        for (int[] o : outside) {
            refused(22, x, "outside", () -> x.engage(4, o[0], o[1], o[2]), OUTSIDE);
        }
        due(22, "refusals change nothing", x.cost(4, 2, 0, 0), 210);
        due(22, "by another quay", x.engage(4, 1, 50, 1000), 1);
        due(22, "free here", x.cost(4, 2, 0, 0), 30);
        due(22, "by this again, dear", x.engage(4, 2, 50, 1000), 1);
        due(22, "its cost then", x.cost(4, 2, 0, 0), 3000);
        due(22, "by none", x.engage(4, -1, 0, 1), 1);
        due(22, "free again", x.cost(4, 2, 0, 0), 30);
    }

    private static void promise23() {
        QuayBrands x = new QuayBrands();
        int[][] outside = {{-1, 1, 0}, {401, 1, 0}, {0, 0, 0}, {0, 1001, 0}, {0, 1, -1}, {0, 1, 401}};
        for (int[] o : outside) {
            refused(23, x, "outside", () -> x.free(o[0], o[1], o[2]), OUTSIDE);
        }
        for (int i = 1; i <= 60; i++) {
            due(23, "telling " + i, x.free(400, i == 1 ? 1 : 1000, 400), i);
        }
        refused(23, x, "a 61st", () -> x.free(0, 1, 0), FULL);
        refused(23, x, "a 61st, outside", () -> x.free(0, 0, 0), OUTSIDE);
        due(23, "prices have their own", x.price(0, 0, 0, 0), 1);
    }

    private static void promise24() {
        QuayBrands x = new QuayBrands();
        x.free(10, 50, 5);
        x.free(10, 40, 7);
        x.free(10, 30, 6);
        x.free(12, 20, 9);
        x.free(2, 60, 9);
        int[][] asked = {{10, 4}, {10, 5}, {10, 6}, {10, 7}, {9, 8}, {9, 9}, {1, 400}, {12, 8}, {12, 9}, {400, 400}, {11, 400}};
        int[] due = {10, 50, 30, 30, 10, 60, 10, 30, 20, 20, 30};
        for (int i = 0; i < asked.length; i++) {
            due(24, "freeOn(" + asked[i][0] + ", " + asked[i][1] + ")", x.freeOn(asked[i][0], asked[i][1]), due[i]);
        }
        int[][] outside = {{-1, 0}, {401, 0}, {0, -1}, {0, 401}};
        for (int[] o : outside) {
            due(24, "outside", x.freeOn(o[0], o[1]), OUTSIDE);
        }
    }

    private static void promise25() {
        QuayBrands x = new QuayBrands();
        x.rule(4, 700);
        x.land(3, 1, 48, 999, 1);
        x.land(3, 1, 24, 1000, 1);
        x.land(3, 2, 24, 555, 1);
        x.land(3, -1, 24, 333, 1);
        x.land(2, 1, 0, 111, 1);
        x.free(2, 33, 0);
        x.engage(3, 1, 2, 17);
        // In order the landing of hour 24: 1000 at 17; of the other one 400 at 17 and 599 at 33.
        due(25, "cost", x.cost(3, 1, 0, 0), 1000 * 17 / 700 + 400 * 17 / 700 + 599 * 33 / 700);
        due(25, "saved", x.cost(3, 1, 0, 1), 1000 * 10 / 700 + 999 * 33 / 700 - 24 - 9 - 28);
        due(25, "fish", x.cost(3, 1, 0, 2), 1999);
        due(25, "fish at another quay", x.cost(3, 2, 0, 2), 555);
        due(25, "free at another quay", x.cost(3, 2, 0, 0), 7);
        due(25, "another boat", x.cost(2, 1, 0, 0), 1);
        due(25, "no fish", x.cost(9, 1, 0, 0), 0);
        x.engage(3, 1, 50, 1000);
        due(25, "dear", x.cost(3, 1, 0, 1), 14 + 47 - 1428 - 1427);
        due(25, "boat 10", x.cost(10, 0, -1, 0), UNKNOWN);
        due(25, "boat -1", x.cost(-1, 0, 0, 0), UNKNOWN);
        due(25, "quay -1", x.cost(0, -1, 0, 0), UNKNOWN);
        due(25, "quay 4", x.cost(0, 4, 0, 0), UNKNOWN);
        due(25, "day 401", x.cost(0, 0, 401, 0), OUTSIDE);
        due(25, "day -1", x.cost(0, 0, -1, 0), OUTSIDE);
        due(25, "what 3", x.cost(0, 0, 0, 3), OUTSIDE);
        due(25, "what -1", x.cost(0, 0, 0, -1), OUTSIDE);
        x.rule(0, 1);
        due(25, "spoilt fish are paid", x.cost(3, 1, 0, 2), 1999);
    }

    private static void promise26() {
        QuayBrands x = withAct("A:h<2", 1);
        x.rule(0, 5);
        x.land(0, 0, 20, 1000, 4);
        x.land(1, 0, 24, 3000, 4);
        x.engage(1, 0, 1, 50);
        x.free(1, 20, 6);
        // Done in hours 21 (day 0: no act), 25, 26, 28; 500 fish are spoilt, of 3500 worked 300 are loose.
        int[] known5 = {10 + 50 + 20, 20, 4, 4, 1, 500, 300, 80 + 20 - 4};
        int[] known6 = {10 + 50 + 40, 20, 4, 4, 1, 500, 300, 100 + 20 - 4};
        for (int what = 0; what < 8; what++) {
            due(26, "account(0, 5, " + what + ")", x.account(0, 5, what), known5[what]);
            due(26, "account(0, 6, " + what + ")", x.account(0, 6, what), known6[what]);
            due(26, "account(1, 6, " + what + ")", x.account(1, 6, what), 0);
        }
        x.rule(5, 0);
        x.rule(6, 100);
        due(26, "bounty of 100", x.account(0, 5, 2), 100);
        due(26, "below 0", x.account(0, 5, 7), -20);
        due(26, "quay 4", x.account(4, -1, 0), UNKNOWN);
        due(26, "quay -1", x.account(-1, 0, 0), UNKNOWN);
        due(26, "day 401", x.account(0, 401, 0), OUTSIDE);
        due(26, "day -1", x.account(0, -1, 0), OUTSIDE);
        due(26, "what 8", x.account(0, 0, 8), OUTSIDE);
        due(26, "what -1", x.account(0, 0, -1), OUTSIDE);
    }

    /** Barrels of one hour that differ in nothing but what the act asks for. */
    private static void likeBarrels() {
        QuayBrands x = withAct("A:h<1", 0);
        x.rule(1, 100);
        x.set(0, 0, 9);
        x.set(0, 1, 2000);
        x.land(0, 0, 0, 18050, 5);
        x.land(1, 0, 1, 150, 5);
        due(26, "all but one", x.account(0, 0, 4), 181);
        due(26, "of all", x.account(0, 0, 3), 182);
        due(15, "the same filled again", x.filled(0, 0, 2000, 0), 181 * 90 / 100);
        QuayBrands y = withAct("A:z>4", 0);
        y.rule(1, 100);
        y.land(0, 0, 0, 150, 5);
        y.land(1, 0, 0, 150, 3);
        due(26, "one of three", y.account(0, 0, 4), 1);
        y.land(2, 1, 0, 150, 3);
        y.land(2, 1, 0, 150, 5);
        due(26, "the last of three", y.account(1, 0, 4), 1);
        QuayBrands z = withAct("A:s=50", 0);
        z.rule(1, 500);
        z.land(0, 0, 0, 1500, 1);
        z.salt(0, 1, 3, 9);
        z.salt(0, 2, 3, 50);
        due(26, "salt by hours", z.account(0, 0, 4), 2);
    }

    private static QuayBrands threeThatWait() {
        QuayBrands x = new QuayBrands();
        x.rule(0, 1);
        x.land(0, 0, 5, 500, 1);
        x.land(0, -1, 5, 500, 1);
        x.land(0, 1, 5, 500, 1);
        x.land(0, -1, 5, 500, 1);
        x.land(0, -1, 5, 300, 1);
        return x;
    }

    private static void promise27() {
        QuayBrands x = threeThatWait();
        due(27, "spoilt", x.spread(-1), 300);
        int[] quays = {2, 3, 0};
        for (int i = 0; i < 3; i++) {
            due(27, "spread(" + i + ")", x.spread(i), quays[i]);
        }
        due(27, "spread(3)", x.spread(3), NONE);
        due(27, "spread(-2)", x.spread(-2), NONE);
        due(27, "spread(MAX)", x.spread(MAX), NONE);
        due(27, "nothing is changed", x.told(3), 3);
        QuayBrands y = new QuayBrands();
        y.land(0, 2, 0, 20000, 1);
        due(27, "none waits", y.spread(-1), 8000);
        due(27, "none waits, 0", y.spread(0), NONE);
    }

    private static void promise28() {
        QuayBrands x = threeThatWait();
        due(28, "settle", x.settle(), 3);
        int[] quays = {0, 2, 1, 3, 0};
        for (int i = 0; i < quays.length; i++) {
            due(28, "quay of " + i, x.landing(i, 1), quays[i]);
        }
        due(28, "spoilt", x.told(8), 300);
        due(28, "settle again", x.settle(), 0);
        due(28, "settle of none", new QuayBrands().settle(), 0);
    }

    private static void promise29() {
        QuayBrands x = new QuayBrands();
        x.price(0, 0, 3, 0);
        x.price(0, 7, 5, 0);
        due(29, "ship 3", x.ship(3, 7, 20), 1);
        due(29, "its load", x.load(20, 0, 0, -1), 100);
        due(29, "an earlier day", x.ship(3, 6, 20), 1);
        due(29, "its load then", x.load(20, 0, 0, -1), 60);
        due(29, "bears 4", x.ship(3, 400, 4), 1);
        due(29, "its load of 4", x.load(20, 0, 0, -1), 20);
        due(29, "ship 4", x.ship(4, -1, 0), UNKNOWN);
        due(29, "ship -1", x.ship(-1, 0, 0), UNKNOWN);
        int[][] outside = {{-1, 0}, {401, 0}, {0, -1}, {0, 21}};
        for (int[] o : outside) {
            refused(29, x, "outside", () -> x.ship(3, o[0], o[1]), OUTSIDE);
        }
        due(29, "refusals change nothing", x.load(20, 0, 0, -1), 20);
        due(29, "bears nothing", x.ship(3, 7, 0), 1);
        due(29, "no load", x.load(20, 20, 0, -1), 0);
    }

    private static void promise30() {
        QuayBrands x = new QuayBrands();
        refused(30, x, "grade 2", () -> x.price(2, -1, 0, 0), UNKNOWN);
        refused(30, x, "grade -1", () -> x.price(-1, 0, 0, 0), UNKNOWN);
        int[][] outside = {{-1, 1, 0}, {401, 1, 0}, {0, -1, 0}, {0, 1001, 0}, {0, 1, -1}, {0, 1, 401}};
        for (int[] o : outside) {
            refused(30, x, "outside", () -> x.price(0, o[0], o[1], o[2]), OUTSIDE);
        }
        for (int i = 1; i <= 60; i++) {
            due(30, "telling " + i, x.price(i % 2, 400, i == 1 ? 0 : 1000, 400), i);
        }
        refused(30, x, "a 61st", () -> x.price(1, 0, 0, 0), FULL);
        refused(30, x, "a 61st, outside", () -> x.price(1, 0, -1, 0), OUTSIDE);
        refused(30, x, "a 61st, unknown", () -> x.price(2, 0, -1, 0), UNKNOWN);
        due(30, "free ones have their own", x.free(0, 1, 0), 1);
    }

    private static void promise31() {
        QuayBrands x = new QuayBrands();
        x.price(0, 10, 50, 5);
        x.price(1, 10, 0, 5);
        x.price(0, 10, 30, 6);
        x.price(1, 9, 70, 8);
        x.price(0, 12, 20, 9);
        int[][] asked = {{0, 10, 4}, {0, 10, 5}, {0, 10, 6}, {1, 10, 6}, {1, 10, 400}, {1, 9, 7}, {1, 9, 8}, {0, 12, 8}, {0, 12, 9}, {0, 9, 400}};
        int[] due = {0, 50, 30, 0, 0, 0, 70, 30, 20, 0};
        for (int i = 0; i < asked.length; i++) {
            due(31, "priceOn " + i, x.priceOn(asked[i][0], asked[i][1], asked[i][2]), due[i]);
        }
        due(31, "grade 2", x.priceOn(2, -1, 0), UNKNOWN);
        due(31, "grade -1", x.priceOn(-1, 0, 0), UNKNOWN);
        int[][] outside = {{-1, 0}, {401, 0}, {0, -1}, {0, 401}};
        for (int[] o : outside) {
            due(31, "outside", x.priceOn(0, o[0], o[1]), OUTSIDE);
        }
    }

    private static void promise32() {
        QuayBrands x = new QuayBrands();
        x.ship(0, 1, 3);
        x.ship(1, 2, 3);
        x.ship(2, 3, 2);
        x.price(0, 1, 10, 0);
        x.price(1, 1, 8, 0);
        x.price(1, 2, 12, 0);
        x.price(0, 3, 10, 4);
        // Known on day 0: grade 0 fetches 10 anywhere; grade 1 fetches 8, 12, 12.
        due(32, "comes to", x.load(4, 6, 0, -1), 5 * 12 + 3 * 10);
        int[] rows = {300, 3, 2, 0};
        for (int i = 0; i < 4; i++) {
            due(32, "ship " + i, x.load(4, 6, 0, i), rows[i]);
        }
        due(32, "ship 4", x.load(4, 6, 0, 4), NONE);
        due(32, "ship -2", x.load(4, 6, 0, -2), NONE);
        int[] less = {0, 0, 100, 0};
        for (int i = 0; i < 4; i++) {
            due(32, "less ahead of more, ship " + i, x.load(1, 0, 0, i), less[i]);
        }
        x.ship(3, 1, 20);
        due(32, "a ship more", x.load(20, 20, 0, -1), 5 * 12 + 20 * 10 + 3 * 8);
        QuayBrands y = new QuayBrands();
        y.ship(0, 0, 20);
        due(32, "worth nothing", y.load(20, 20, 0, -1), 0);
        due(32, "bears nothing then", y.load(20, 20, 0, 0), 0);
        int[][] outside = {{-1, 0, 0}, {21, 0, 0}, {0, -1, 0}, {0, 21, 0}, {0, 0, -1}, {0, 0, 401}};
        for (int[] o : outside) {
            due(32, "outside", y.load(o[0], o[1], o[2], 9), OUTSIDE);
        }
    }

    private static void promise33() {
        QuayBrands x = withAct("A:h<1", 0);
        sayAll(x, "xyz");
        x.rule(0, 1);
        x.land(0, 0, 0, 600, 1);
        x.land(0, 1, 0, 700, 1);
        x.land(0, -1, 0, 800, 1);
        x.rule(1, 100);
        x.salt(0, 0, 0, 1);
        x.judge(0, 0, 0, true);
        x.judge(0, 0, 0, false);
        x.free(0, 1, 0);
        x.price(0, 1, 0, 0);
        x.price(1, 1, 0, 0);
        int[] due = {3, 1, 3, 1, 1, 2, 1, 2, 300, 10};
        for (int what = 0; what < due.length; what++) {
            due(33, "told(" + what + ")", x.told(what), due[what]);
        }
        int[] outside = {-1, 10, MIN, MAX};
        for (int o : outside) {
            due(33, "told(" + o + ")", x.told(o), OUTSIDE);
        }
    }

    public static void main(String[] args) {
        promise1();
        promise2();
        promise3();
        promise4();
        promise5();
        promise6();
        promise7();
        promise8();
        promise9();
        promise10();
        promise11();
        promise12();
        promise13();
        promise14();
        promise15();
        promise16();
        promise17();
        promise18();
        promise19();
        promise20();
        promise21();
        promise22();
        promise23();
        promise24();
        promise25();
        promise26();
        likeBarrels();
        promise27();
        promise28();
        promise29();
        promise30();
        promise31();
        promise32();
        promise33();
        System.out.println(looked + " answers looked at, " + wrong + " not as due");
        if (wrong != 0) {
            System.exit(1);
        }
    }
}

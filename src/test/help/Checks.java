/** What the tests of edges share: answers held against those due, and objects held against one another. */
final class Checks {
    static final int NONE = -6, UNKNOWN = -1, OUTSIDE = -2, FULL = -4, NO = -5;
    static final int MIN = Integer.MIN_VALUE, MAX = Integer.MAX_VALUE;

    private static final int[] RULE_LOWEST = {1, 100, 1, 0, 500, 0, 0};
    private static int looked = 0;
    private static int wrong = 0;

    private Checks() {
    }

    /** Makes an object, in the same state each time. */
    interface Making {
        QuayBrands make();
    }

    /** A call of an object. */
    interface Asking {
        int of(QuayBrands x);
    }

    /** Answers in the order in which they were given. */
    private static final class Portrait {
        private final int[] answers = new int[600];
        private int count = 0;

        void add(int answer) {
            answers[count] = answer;
            count++;
        }
    }

    static void due(String sentence, int got, int want) {
        looked++;
        if (got != want) {
            wrong++;
            System.out.println(sentence + ": answered " + got + ", due is " + want);
        }
    }

    static void hold(String sentence, boolean so) {
        looked++;
        if (!so) {
            wrong++;
            System.out.println(sentence + ": is not so");
        }
    }

    /** The call answers as due, and behind it the object answers all else as one that was not asked. */
    static void changesNothing(String sentence, Making making, Asking call, int want) {
        for (int half = 0; half < 2; half++) {
            QuayBrands plain = making.make();
            QuayBrands asked = making.make();
            due(sentence, call.of(asked), want);
            alike(sentence, half, plain, asked);
        }
    }

    static void sayAll(QuayBrands x, String text) {
        for (int i = 0; i < text.length(); i++) {
            x.say(text.charAt(i));
        }
    }

    static QuayBrands saying(String text) {
        QuayBrands x = new QuayBrands();
        sayAll(x, text);
        return x;
    }

    /** An object with one act. */
    static QuayBrands acting(String text, int day) {
        QuayBrands x = saying(text);
        due("an act of " + text, x.act(day), 1);
        return x;
    }

    static void end() {
        System.out.println(looked + " answers looked at, " + wrong + " not as due");
        if (wrong != 0) {
            System.exit(1);
        }
    }

    /** Two halves, so that no object is asked more than its 512 calls. */
    private static void alike(String sentence, int half, QuayBrands plain, QuayBrands asked) {
        Portrait left = half == 0 ? quaysOf(plain) : pricesOf(plain);
        Portrait right = half == 0 ? quaysOf(asked) : pricesOf(asked);
        due(sentence + ", then how many answers", right.count, left.count);
        for (int i = 0; i < left.count && i < right.count; i++) {
            due(sentence + ", then answer " + i + " of half " + half, right.answers[i], left.answers[i]);
        }
    }

    private static Portrait quaysOf(QuayBrands x) {
        Portrait p = new Portrait();
        for (int what = 0; what < 10; what++) {
            p.add(x.told(what));
        }
        int landings = x.told(2);
        for (int i = 0; i < landings; i++) {
            for (int what = 0; what < 7; what++) {
                p.add(x.landing(i, what));
            }
        }
        for (int q = 0; q < 4; q++) {
            p.add(x.barrel(q, -1, 0));
            for (int what = 0; what < 7; what++) {
                p.add(x.barrel(q, 1, what));
            }
            p.add(x.brand(q, 1, 400));
        }
        for (int i = -1; i < 5; i++) {
            p.add(x.spread(i));
        }
        // What is set and ruled is told only by the call that changes it.
        for (int q = 0; q < 4; q++) {
            p.add(x.set(q, 0, 1));
            p.add(x.set(q, 1, 1));
        }
        for (int which = 0; which < RULE_LOWEST.length; which++) {
            p.add(x.rule(which, RULE_LOWEST[which]));
        }
        return p;
    }

    private static Portrait pricesOf(QuayBrands x) {
        Portrait p = new Portrait();
        for (int c = 0; c < 30; c++) {
            p.add(x.cause(c));
        }
        p.add(x.explained());
        for (int k = -1; k < 3; k++) {
            p.add(x.rival(k == -1 ? -1 : 0, k));
        }
        for (int q = 0; q < 4; q++) {
            for (int b = 0; b < 10; b++) {
                p.add(x.cost(b, q, 400, 0));
            }
            p.add(x.account(q, 400, 2));
            p.add(x.filled(q, 0, 2000, 1));
        }
        for (int day = 0; day < 8; day++) {
            p.add(x.freeOn(day, 8));
            p.add(x.priceOn(0, day, 8));
            p.add(x.priceOn(1, day, 8));
            p.add(x.grade(day, 0));
        }
        for (int i = -1; i < 4; i++) {
            p.add(x.load(20, 20, 400, i));
        }
        draftInto(p, x);
        return p;
    }

    /** The signs that were said are told by what kind of an act they make. */
    private static void draftInto(Portrait p, QuayBrands x) {
        p.add(x.fault());
        p.add(x.act(400));
        for (int i = -1; i < 6; i++) {
            p.add(x.grade(400, i));
        }
        p.add(x.grade(399, 0));
        for (int q = 0; q < 4; q++) {
            p.add(x.brand(q, 0, 400));
        }
        p.add(x.wipe());
    }
}

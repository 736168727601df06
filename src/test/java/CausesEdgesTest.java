import java.math.BigInteger;

/** The document's section 3, and promises 16 to 21: each sentence that names an edge, on both its sides. */
public final class CausesEdgesTest {
    private static final int NONE = Checks.NONE, OUTSIDE = Checks.OUTSIDE, FULL = Checks.FULL;

    private CausesEdgesTest() {
    }

    private static void due(String sentence, int got, int want) {
        Checks.due(sentence, got, want);
    }

    /** "the fewest by which the chance that none of the bad is among them is r hundredths or less": every n, d and r there is. */
    private static void everyOpened() {
        int exact = 0;
        for (int n = 1; n <= 30; n++) {
            for (int d = 1; d <= n; d++) {
                QuayBrands x = new QuayBrands();
                for (int r = 0; r <= 99; r++) {
                    int opened = 0;
                    while (hundredths(n, d, opened, r) > 0) {
                        opened++;
                    }
                    exact += hundredths(n, d, opened, r) == 0 && r > 0 ? 1 : 0;
                    due("open(" + n + ", " + d + ", " + r + ")", x.open(n, d, r), opened);
                }
                due("r is 100", x.open(n, d, 100), OUTSIDE);
                due("d is one more than n", x.open(n, n + 1, 0), OUTSIDE);
            }
        }
        Checks.hold("some chances are so many hundredths to a hair", exact > 50);
    }

    /** Whether the chance is above r hundredths (1), just that (0) or below (-1). */
    private static int hundredths(int n, int d, int opened, int r) {
        BigInteger good = BigInteger.valueOf(100);
        BigInteger all = BigInteger.valueOf(r);
        for (int i = 0; i < opened; i++) {
            good = good.multiply(BigInteger.valueOf(Math.max(0, n - d - i)));
            all = all.multiply(BigInteger.valueOf(n - i));
        }
        return good.compareTo(all);
    }

    /** Chances that are just r hundredths, and a hundredth less. */
    private static void openedToAHair() {
        int[][] rows = {{10, 1, 50, 5}, {10, 1, 49, 6}, {4, 2, 50, 1}, {4, 2, 49, 2}, {4, 2, 17, 2}, {4, 2, 16, 3}, {4, 2, 0, 3},
            {1, 1, 0, 1}, {1, 1, 99, 1},
            {30, 30, 0, 1}, {30, 30, 99, 1}, {30, 1, 0, 30}, {30, 1, 3, 30}, {30, 1, 4, 29}, {30, 1, 99, 1}, {20, 1, 95, 1},
            {20, 1, 94, 2}, {25, 1, 96, 1}, {25, 1, 95, 2},
            {2, 1, 50, 1}, {2, 1, 49, 2}, {30, 29, 3, 2}, {30, 29, 4, 1}, {5, 4, 20, 1}, {5, 4, 19, 2}};
        QuayBrands x = new QuayBrands();
        for (int[] row : rows) {
            due("open(" + row[0] + ", " + row[1] + ", " + row[2] + ")", x.open(row[0], row[1], row[2]), row[3]);
        }
    }

    /** "JUDGED BARRELS, 24 at most": how many, and the 24th counts as the first does. */
    private static void judged24() {
        QuayBrands x = new QuayBrands();
        due("none", x.absolve(), 0);
        for (int i = 0; i < 24; i++) {
            due("told(5)", x.told(5), i);
            boolean atAnEnd = i == 0 || i == 23;
            due("barrel " + i, x.judge(atAnEnd ? 9 : 0, i % 8, i % 8, atAnEnd), i + 1);
        }
        due("a 25th", x.judge(9, 9, 9, false), FULL);
        due("a 25th reject", x.judge(9, 9, 9, true), FULL);
        due("a 25th of no crew", x.judge(10, 9, 9, true), OUTSIDE);
        due("24", x.told(5), 24);
        due("the first and the last have crew 9", x.cause(9), 1);
        due("no reject has crew 0", x.cause(0), 0);
        due("it explains both", x.explained(), 1);
        due("it alone", x.rival(0, 0), 9);
        due("all go", x.absolve(), 24);
        due("none are left", x.told(5), 0);
        due("none were there", x.absolve(), 0);
        due("no cause is left", x.cause(9), 0);
        due("no reject is left", x.explained(), 0);
        due("the first again", x.judge(9, 9, 9, true), 1);
        due("one alone is not two", x.cause(9), 0);
    }

    /** "it may be one, if 2 REJECTS at least have it, and no other BARREL", of each kind and number. */
    private static void whatMayBeACause() {
        for (int c = 0; c < 30; c++) {
            QuayBrands x = new QuayBrands();
            due("without barrels", x.cause(c), 0);
            judgeOne(x, c, 0, false);
            judgeOne(x, c, 1, false);
            due("without one that has it", x.cause(c), 0);
            judgeOne(x, c, -1, true);
            due("one REJECT", x.cause(c), 0);
            judgeOne(x, c, -1, true);
            due("two REJECTS", x.cause(c), 1);
            judgeOne(x, c, -1, true);
            due("three REJECTS", x.cause(c), 1);
            judgeOne(x, c, 1, false);
            due("another barrel, that has it not", x.cause(c), 1);
            judgeOne(x, c, -1, false);
            due("another barrel, that has it", x.cause(c), 0);
            judgeOne(x, c, -1, true);
            due("it may never be one then", x.cause(c), 0);
            x.absolve();
            judgeOne(x, c, -1, true);
            judgeOne(x, c, -1, true);
            due("judged anew", x.cause(c), 1);
            due("a number beyond", x.cause(30), OUTSIDE);
            due("a number below", x.cause(-1), OUTSIDE);
        }
    }

    /** "JUDGED BARRELS go": nothing of theirs is left, neither that they had a cause nor that they were rejects. */
    private static void judgedAnew() {
        for (int were = 0; were <= 24; were++) {
            for (int good = 0; good < 2; good++) {
                QuayBrands x = new QuayBrands();
                for (int i = 0; i < were; i++) {
                    x.judge(i % 10, 9 - i % 10, i % 7, i % 3 != good);
                }
                due("they go", x.absolve(), were);
                x.judge(0, 0, 0, good == 0);
                x.judge(1, 1, 1, true);
                dueCauses("none has two", x);
                due("a REJECT without a CAUSE", x.explained(), NONE);
                x.judge(2, 2, 1, true);
                dueCauses("sixes 1 have two", x, 21);
                due("of two or three REJECTS", x.explained(), good == 0 ? NONE : 1);
            }
        }
    }

    private static void dueCauses(String sentence, QuayBrands x, int... causes) {
        for (int c = 0; c < 30; c++) {
            int isOne = 0;
            for (int cause : causes) {
                isOne = cause == c ? 1 : isOne;
            }
            due(sentence + ", cause(" + c + ")", x.cause(c), isOne);
        }
    }

    /** A barrel that has the cause (number of -1), or one of its kind with the number told; all else differs each time. */
    private static void judgeOne(QuayBrands x, int c, int number, boolean reject) {
        int[] three = {x.told(5), x.told(5), x.told(5)};
        three[c / 10] = number == -1 ? c % 10 : (c + 1 + number) % 10;
        x.judge(three[0], three[1], three[2], reject);
    }

    /** Rejects by pairs: of pair i both have the crew i alone. */
    private static QuayBrands pairs(int count) {
        QuayBrands x = new QuayBrands();
        for (int i = 0; i < count; i++) {
            x.judge(i, 2 * i, 2 * i, true);
            x.judge(i, 2 * i + 1, 2 * i + 1, true);
        }
        return x;
    }

    /** "the fewest CAUSES (3 at most) such that each REJECT has one"; 0 without REJECTS, NONE if 3 do not do. */
    private static void fewestCauses() {
        int[] fewest = {0, 1, 2, 3, NONE, NONE};
        int[] sets = {1, 1, 1, 1, 0, 0};
        for (int count = 0; count < fewest.length; count++) {
            QuayBrands x = pairs(count);
            due(count + " pairs", x.explained(), fewest[count]);
            due("sets for " + count + " pairs", x.rival(-1, 0), sets[count]);
            for (int k = -1; k < 4; k++) {
                due("CAUSE " + k + " for " + count + " pairs", x.rival(0, k), k >= 0 && k < fewest[count] ? k : NONE);
            }
            due("a second set", x.rival(1, 0), NONE);
        }
        QuayBrands good = new QuayBrands();
        good.judge(0, 0, 0, false);
        good.judge(0, 0, 0, false);
        due("no REJECT", good.explained(), 0);
        due("the set of none", good.rival(-1, 0), 1);
        due("has no CAUSE", good.rival(0, 0), NONE);
        good.judge(1, 1, 1, true);
        due("one REJECT has no CAUSE", good.explained(), NONE);
        due("no set", good.rival(-1, 0), 0);
        good.judge(1, 1, 1, true);
        due("two have", good.explained(), 1);
        due("three sets", good.rival(-1, 0), 3);
        good.judge(2, 2, 2, true);
        due("a REJECT that has none", good.explained(), NONE);
    }

    /** "all sets of so few, rising numbers, in order"; "how many (i = -1 ..), CAUSE k of the i-th; NONE". */
    private static void dueSets(String sentence, QuayBrands x, int[][] sets) {
        due(sentence + ", how many", x.rival(-1, 0), sets.length);
        for (int i = 0; i < sets.length; i++) {
            for (int k = 0; k < sets[i].length; k++) {
                due(sentence + ", set " + i + ", " + k, x.rival(i, k), sets[i][k]);
            }
            due(sentence + ", set " + i + ", behind its last", x.rival(i, sets[i].length), NONE);
            due(sentence + ", set " + i + ", ahead of its first", x.rival(i, -1), NONE);
        }
        for (int i : new int[] {sets.length, -2, Checks.MIN, Checks.MAX}) {
            due(sentence + ", set " + i, x.rival(i, 0), NONE);
        }
        for (int k : new int[] {-9, 9, Checks.MIN, Checks.MAX}) {
            due(sentence + ", how many, of any k", x.rival(-1, k), sets.length);
            due(sentence + ", set 0, " + k, x.rival(0, k), NONE);
        }
    }

    private static void setsInOrder() {
        QuayBrands one = new QuayBrands();
        one.judge(9, 9, 9, true);
        one.judge(9, 9, 9, true);
        dueSets("one of three kinds", one, new int[][] {{9}, {19}, {29}});
        one.judge(8, 8, 9, true);
        dueSets("fewer than before", one, new int[][] {{29}});
        one.judge(8, 8, 0, false);
        dueSets("crew 8 and lot 8 are no causes", one, new int[][] {{29}});
        QuayBrands two = new QuayBrands();
        two.judge(0, 1, 2, true);
        two.judge(0, 1, 3, true);
        two.judge(5, 0, 9, true);
        two.judge(6, 0, 9, true);
        dueSets("two of four", two, new int[][] {{0, 10}, {0, 29}, {10, 11}, {11, 29}});
        QuayBrands three = new QuayBrands();
        for (int i = 0; i < 3; i++) {
            three.judge(i, i, i, true);
            three.judge(i, i, i, true);
        }
        int[][] all = new int[27][];
        int at = 0;
        for (int a = 0; a < 30; a++) {
            for (int b = a + 1; b < 30; b++) {
                for (int c = b + 1; c < 30; c++) {
                    boolean ones = a % 10 < 3 && b % 10 < 3 && c % 10 < 3;
                    if (ones && a % 10 != b % 10 && a % 10 != c % 10 && b % 10 != c % 10) {
                        all[at] = new int[] {a, b, c};
                        at++;
                    }
                }
            }
        }
        dueSets("three of nine", three, all);
    }

    /** A set of causes may share a reject; a cause that is not needed stands in no set of so few. */
    private static void sharedRejects() {
        QuayBrands x = new QuayBrands();
        x.judge(0, 0, 0, true);
        x.judge(0, 1, 0, true);
        x.judge(1, 1, 1, true);
        x.judge(1, 2, 2, true);
        // Crew 0 or sixes 0 for the first two, crew 1 for the last two; lot 1 for the middle ones alone.
        dueSets("shared", x, new int[][] {{0, 1}, {1, 20}});
        x.judge(1, 3, 3, false);
        due("crew 1 is no cause then", x.explained(), NONE);
        due("no set", x.rival(-1, 0), 0);
    }

    public static void main(String[] args) {
        everyOpened();
        openedToAHair();
        judged24();
        whatMayBeACause();
        judgedAnew();
        fewestCauses();
        setsInOrder();
        sharedRejects();
        Checks.end();
    }
}

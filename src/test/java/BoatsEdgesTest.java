/** The document's section 4, and promises 22 to 26: each sentence that names an edge, on both its sides. */
public final class BoatsEdgesTest {
    private static final int UNKNOWN = Checks.UNKNOWN, OUTSIDE = Checks.OUTSIDE, FULL = Checks.FULL;

    private BoatsEdgesTest() {
    }

    private static void due(String sentence, int got, int want) {
        Checks.due(sentence, got, want);
    }

    /** "of its fish the first CRANS times CRAN at its price; all others at FREE": to the fish. */
    private static void firstCrans() {
        // Crans, their price, fish of two landings, what both cost: FREE is 10, a CRAN is 1000.
        int[][] rows = {{2, 7, 2000, 1000, 14 + 10}, {2, 7, 2001, 1000, 14 + 10}, {2, 7, 2100, 1000, 14 + 1 + 10}, {2, 7, 1999, 1, 13},
            {2, 7, 1000, 1000, 7 + 7},
            {2, 7, 1000, 1001, 7 + 7}, {2, 7, 1000, 1100, 7 + 7 + 1}, {2, 7, 1900, 1000, 13 + 9}, {2, 7, 1900, 200, 13 + 1},
            {0, 1000, 500, 500, 5 + 5}, {1, 1000, 1, 999, 1 + 999},
            {1, 1000, 1, 1000, 1 + 999}, {1, 1000, 1, 1100, 1 + 999 + 1}, {1, 1, 999, 1, 0}, {1, 1, 1000, 99, 1}, {1, 1, 1000, 100, 2},
            {50, 3, 20000, 20000, 60 + 60}};
        for (int[] row : rows) {
            QuayBrands x = new QuayBrands();
            x.engage(6, 3, row[0], row[1]);
            x.land(6, 3, 4, row[2], 1);
            x.land(6, 3, 4, row[3], 1);
            due("COST of " + row[2] + " and " + row[3] + " by " + row[0], x.cost(6, 3, 0, 0), row[4]);
            due("its fish", x.cost(6, 3, 0, 2), row[2] + row[3]);
            due("SAVED", x.cost(6, 3, 0, 1), row[2] * 10 / 1000 + row[3] * 10 / 1000 - row[4]);
        }
    }

    /** "CRANS (0 to 50) at a price (1 to 1000)"; "CRAN is how many fish one is (500 to 1500; 1000 at first)". */
    private static void mostOfAll() {
        QuayBrands x = new QuayBrands();
        x.rule(4, 1500);
        x.engage(0, 0, 50, 1000);
        for (int i = 0; i < 4; i++) {
            x.land(0, 0, 2000, 20000, 9);
        }
        due("75000 fish at 1000, 5000 at 10", x.cost(0, 0, 400, 0), 3 * 13333 + 10000 + 33);
        due("dear", x.cost(0, 0, 400, 1), 4 * 133 - 3 * 13333 - 10000 - 33);
        due("80000 fish", x.cost(0, 0, 400, 2), 80000);
        QuayBrands y = new QuayBrands();
        due("1000 at first", y.rule(4, 500), 1000);
        y.free(83, 1000, 0);
        y.engage(0, 0, 50, 1);
        for (int i = 0; i < 30; i++) {
            y.land(0, 0, 2000, 20000, 9);
        }
        due("25000 fish at 1, 575000 at 1000", y.cost(0, 0, 400, 0), 40 + 10 + 30000 + 28 * 40000);
        due("cheap", y.cost(0, 0, 400, 1), 30 * 40000 - 40 - 10 - 30000 - 28 * 40000);
        due("600000 fish", y.cost(0, 0, 400, 2), 600000);
        due("ACCOUNT", y.account(0, 400, 0), 40 + 10 + 30000 + 28 * 40000);
        QuayBrands z = new QuayBrands();
        z.land(0, 0, 0, 99, 1);
        due("99 fish at 10 by 1000, cut", z.cost(0, 0, 0, 0), 0);
        z.rule(4, 990);
        due("99 fish at 10 by 990", z.cost(0, 0, 0, 0), 1);
        z.rule(4, 991);
        due("99 fish at 10 by 991, cut", z.cost(0, 0, 0, 0), 0);
    }

    /** "its LANDINGS there in order (HOURS, numbers)": which of them have the price agreed. */
    private static void landingsInOrder() {
        QuayBrands x = new QuayBrands();
        x.free(0, 100, 0);
        x.free(1, 200, 0);
        x.free(2, 300, 0);
        x.engage(5, 1, 1, 1);
        x.land(5, 1, 48, 1000, 1);
        x.land(5, 1, 24, 1000, 1);
        due("the earlier one first", x.cost(5, 1, 0, 0), 1 + 300);
        x.land(5, 1, 23, 1000, 1);
        due("the earliest one first", x.cost(5, 1, 0, 0), 1 + 200 + 300);
        x.land(5, 1, 23, 500, 1);
        due("of one hour by numbers", x.cost(5, 1, 0, 0), 1 + 50 + 200 + 300);
        x.land(5, 0, 1, 1000, 1);
        due("one at another quay takes none of it", x.cost(5, 1, 0, 0), 1 + 50 + 200 + 300);
        due("and is free there", x.cost(5, 0, 0, 0), 100);
        x.land(5, -1, 1, 1000, 1);
        due("one that waits takes none of it", x.cost(5, 1, 0, 0), 1 + 50 + 200 + 300);
        x.land(4, 1, 1, 1000, 1);
        due("another boat's takes none of it", x.cost(5, 1, 0, 0), 1 + 50 + 200 + 300);
        due("and is free", x.cost(4, 1, 0, 0), 100);
        due("COSTS of all BOATS", x.account(1, 0, 0), 1 + 50 + 200 + 300 + 100);
        x.lead(4, 1);
        due("led to the quay", x.cost(5, 1, 0, 0), 1 + 100 + 50 + 200 + 300);
        x.rule(0, 1);
        due("SPOILT fish are paid for as well", x.cost(5, 1, 0, 0), 1 + 100 + 50 + 200 + 300);
        due("its fish, SPOILT or not", x.cost(5, 1, 0, 2), 4500);
    }

    /** "A BOAT is ENGAGED by a QUAY (-1: by none)": by one at a time, the last told. */
    private static void engagedByOne() {
        for (int boat = 0; boat < 10; boat++) {
            QuayBrands x = new QuayBrands();
            for (int q = 0; q < 4; q++) {
                x.land(boat, q, 0, 1000, 1);
                due("FREE at first", x.cost(boat, q, 0, 0), 10);
            }
            for (int by = 0; by < 4; by++) {
                due("engaged", x.engage(boat, by, 1, 77), 1);
                for (int q = 0; q < 4; q++) {
                    due("at " + q + ", ENGAGED by " + by, x.cost(boat, q, 0, 0), q == by ? 77 : 10);
                    due("SAVED", x.cost(boat, q, 0, 1), q == by ? 10 - 77 : 0);
                    due("another boat", x.cost((boat + 1) % 10, q, 0, 0), 0);
                }
            }
            due("by the same, anew", x.engage(boat, 3, 1, 9), 1);
            due("SAVED", x.cost(boat, 3, 0, 1), 1);
            due("too many", x.engage(boat, -1, 51, 9), OUTSIDE);
            due("still engaged", x.cost(boat, 3, 0, 0), 9);
            due("by none", x.engage(boat, -1, 50, 1000), 1);
            due("FREE again", x.cost(boat, 3, 0, 0), 10);
            due("SAVED of none", x.cost(boat, 3, 0, 1), 0);
            due("of no quay", x.cost(boat, -1, 0, 0), UNKNOWN);
        }
    }

    /** "of tellings told on a DAY not later than that those of the latest DAY not later, of these the last that was told here; 10 without any". */
    private static void freeAsKnown() {
        QuayBrands x = new QuayBrands();
        due("10 without any", x.freeOn(0, 0), 10);
        due("10 without any, on the last days", x.freeOn(400, 400), 10);
        x.free(7, 20, 5);
        int[][] one = {{7, 5, 20}, {7, 4, 10}, {6, 5, 10}, {6, 4, 10}, {8, 5, 20}, {7, 6, 20}, {400, 400, 20}, {0, 400, 10}, {400, 0, 10}};
        dueFrees("one telling", x, one);
        x.free(8, 30, 5);
        dueFrees("of the latest day not later", x, new int[][] {{7, 5, 20}, {8, 5, 30}, {9, 5, 30}, {8, 4, 10}});
        x.free(7, 40, 6);
        dueFrees("told last of an earlier day", x, new int[][] {{7, 5, 20}, {7, 6, 40}, {8, 6, 30}, {8, 400, 30}});
        x.free(7, 50, 5);
        dueFrees("the last that was told here, though told of an earlier day", x, new int[][] {{7, 5, 50}, {7, 6, 50}, {8, 6, 30},
            {7, 4, 10}});
        x.free(8, 60, 9);
        dueFrees("not known yet", x, new int[][] {{8, 8, 30}, {8, 9, 60}, {7, 9, 50}});
        x.free(0, 1, 0);
        dueFrees("the first days", x, new int[][] {{0, 0, 1}, {6, 400, 1}, {7, 4, 1}, {400, 0, 1}});
        x.free(400, 1000, 400);
        dueFrees("the last days", x, new int[][] {{400, 400, 1000}, {400, 399, 60}, {399, 400, 60}});
    }

    private static void dueFrees(String sentence, QuayBrands x, int[][] rows) {
        for (int[] row : rows) {
            due(sentence + ": FREE on " + row[0] + " as known on " + row[1], x.freeOn(row[0], row[1]), row[2]);
        }
    }

    /** "(60 tellings at most)": the sixtieth is in force, a 61st is not. */
    private static void sixtyFrees() {
        QuayBrands x = new QuayBrands();
        for (int i = 0; i < 60; i++) {
            due("told(6)", x.told(6), i);
            due("telling " + i, x.free(i, 100 + i, 0), i + 1);
        }
        due("a 61st", x.free(59, 999, 0), FULL);
        due("the sixtieth", x.freeOn(59, 0), 159);
        due("the first", x.freeOn(0, 0), 100);
        due("told(6)", x.told(6), 60);
        due("those of GRADES have room of their own", x.price(0, 0, 1, 0), 1);
    }

    /** "all others at FREE on the LANDING's DAY", as known on the day asked for. */
    private static void costAsKnown() {
        QuayBrands x = new QuayBrands();
        x.land(0, 0, 47, 1000, 1);
        x.land(0, 0, 48, 1000, 1);
        x.free(1, 100, 3);
        x.free(2, 200, 4);
        int[] costs = {20, 20, 20, 200, 300, 300};
        for (int known = 0; known < costs.length; known++) {
            due("COST as known on " + known, x.cost(0, 0, known, 0), costs[known]);
            due("COSTS as known on " + known, x.account(0, known, 0), costs[known]);
        }
        x.engage(0, 0, 1, 150);
        int[] saved = {10 - 150, 10 - 150, 10 - 150, 100 - 150, 100 - 150};
        for (int known = 0; known < saved.length; known++) {
            due("SAVED as known on " + known + " (below 0, if it was dear)", x.cost(0, 0, known, 1), saved[known]);
        }
        x.engage(0, 0, 1, 100);
        due("SAVED nothing", x.cost(0, 0, 400, 1), 0);
        x.engage(0, 0, 1, 99);
        due("SAVED one", x.cost(0, 0, 400, 1), 1);
    }

    private static void dueAccount(String sentence, QuayBrands x, int quay, int... rows) {
        for (int what = 0; what < rows.length; what++) {
            due(sentence + ", ACCOUNT " + what, x.account(quay, 0, what), rows[what]);
        }
        due(sentence + ", beyond it", x.account(quay, 0, 8), OUTSIDE);
    }

    /** "ACCOUNT of a QUAY": each row, of nothing, of one barrel, at the ends of WAGE and BOUNTY. */
    private static void accounts() {
        QuayBrands x = Checks.acting("A:h<1", 0);
        for (int q = 0; q < 4; q++) {
            dueAccount("of nothing", x, q, 0, 0, 0, 0, 0, 0, 0, 0);
        }
        x.set(2, 1, 800);
        x.land(0, 2, 0, 799, 1);
        dueAccount("one fish too few", x, 2, 7, 0, 0, 0, 0, 0, 799, 7);
        x.land(1, 2, 0, 1, 1);
        dueAccount("one branded barrel", x, 2, 7, 5, 4, 1, 1, 0, 0, 8);
        x.land(2, 2, 1, 801, 1);
        dueAccount("two branded barrels", x, 2, 7 + 8, 10, 8, 2, 2, 0, 1, 17);
        x.land(3, 2, 2, 800, 1);
        dueAccount("the third has a fish that lay an hour", x, 2, 7 + 8 + 8, 15, 8, 3, 2, 0, 1, 30);
        for (int other : new int[] {0, 1, 3}) {
            dueAccount("another quay", x, other, 0, 0, 0, 0, 0, 0, 0, 0);
        }
        x.rule(5, 0);
        dueAccount("WAGE of 0", x, 2, 23, 0, 8, 3, 2, 0, 1, 15);
        x.rule(6, 100);
        dueAccount("BOUNTY of 100", x, 2, 23, 0, 200, 3, 2, 0, 1, -177);
        x.rule(5, 100);
        x.rule(6, 0);
        dueAccount("WAGE of 100, BOUNTY of 0", x, 2, 23, 300, 0, 3, 2, 0, 1, 323);
        x.rule(0, 1);
        dueAccount("SPOILT", x, 2, 23, 300, 0, 3, 3, 1, 0, 323);
    }

    /** "a BARREL that has a BRAND on the DAY it is DONE": not by an act of the day behind, nor of any other day. */
    private static void bountyOnTheDay() {
        for (int since = 0; since < 4; since++) {
            QuayBrands x = Checks.acting("F:z>0", since);
            x.set(0, 1, 800);
            int[] hours = {0, 23, 24, 47, 48, 71, 72};
            for (int hour : hours) {
                x.land(0, 0, hour, 800, 1);
            }
            int branded = since == 0 ? 7 : 7 - 2 * since;
            due("branded by an act of day " + since, x.account(0, 0, 4), branded);
            due("BOUNTY by it", x.account(0, 400, 2), 4 * branded);
            Checks.sayAll(x, "A:z>1");
            x.act(2);
            due("and none of day 2 on", x.account(0, 0, 4), since == 0 ? 4 : since == 1 ? 2 : since == 2 ? 0 : 1);
        }
    }

    public static void main(String[] args) {
        firstCrans();
        mostOfAll();
        landingsInOrder();
        engagedByOne();
        freeAsKnown();
        sixtyFrees();
        costAsKnown();
        accounts();
        bountyOnTheDay();
        Checks.end();
    }
}

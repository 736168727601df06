/** The document's section 2, and promises 8 to 15: each sentence that names an edge, on both its sides. */
public final class QuaysEdgesTest {
    private static final int NONE = Checks.NONE, UNKNOWN = Checks.UNKNOWN, OUTSIDE = Checks.OUTSIDE;
    private static final int FULL = Checks.FULL, NO = Checks.NO;

    private QuaysEdgesTest() {
    }

    private static void due(String sentence, int got, int want) {
        Checks.due(sentence, got, want);
    }

    /** A quay 0 that guts so many fish an hour. */
    private static QuayBrands gutting(int rate) {
        QuayBrands x = new QuayBrands();
        x.set(0, 1, rate);
        return x;
    }

    private static void dueBarrel(String sentence, QuayBrands x, int quay, int i, int[] row) {
        for (int what = 0; what < row.length; what++) {
            due(sentence + ", barrel " + i + ", " + what, x.barrel(quay, i, what), row[what]);
        }
    }

    /** "the DAY of an HOUR: the HOUR by 24", of a landing and of a barrel, beyond hour 2000 too. */
    private static void dayOfAnHour() {
        int[][] days = {{0, 0}, {23, 0}, {24, 1}, {47, 1}, {48, 2}, {1991, 82}, {1992, 83}, {2000, 83}};
        for (int[] row : days) {
            QuayBrands x = gutting(800);
            for (int day = Math.max(0, row[1] - 1); day <= row[1] + 1; day++) {
                x.free(day, 100 + day, 0);
            }
            x.land(0, 0, row[0], 1000, 1);
            due("FREE on the day of hour " + row[0], x.cost(0, 0, 0, 0), 100 + row[1]);
            due("BOUNTY on the day of hour " + row[0], bountyOf(row[0], 800, row[1]), 4);
            due("BOUNTY ahead of the day of hour " + row[0], bountyOf(row[0], 800, row[1] + 1), 0);
        }
        // 800 fish from hour 2000 on: 13 an hour are done in hour 2061 (day 85), 12 an hour in 2066 (day 86).
        int[][] beyond = {{13, 2061, 85}, {12, 2066, 86}};
        for (int[] row : beyond) {
            due("BOUNTY in hour " + row[1], bountyOf(2000, row[0], row[2]), 4);
            due("BOUNTY ahead of hour " + row[1], bountyOf(2000, row[0], row[2] + 1), 0);
        }
    }

    private static int bountyOf(int hour, int rate, int actDay) {
        QuayBrands x = Checks.acting("A:z>0", actDay);
        x.rule(0, 72);
        x.set(0, 1, rate);
        x.land(0, 0, hour, 800, 1);
        return x.account(0, 0, 2);
    }

    /** "CREWS (1 to 9; 1 at first), each of which guts RATE fish an HOUR (1 to 2000; 500 at first)". */
    private static void crewsTimesRate() {
        int[][] rows = {{1, 1}, {9, 1}, {1, 2000}, {9, 2000}, {1, 500}, {3, 7}, {2, 499}};
        for (int[] row : rows) {
            int hands = row[0] * row[1];
            for (int over = 0; over < 2; over++) {
                QuayBrands x = new QuayBrands();
                due("crews at first", x.set(3, 0, row[0]), 1);
                due("rate at first", x.set(3, 1, row[1]), 500);
                x.land(0, 3, 10, hands + over, 1);
                due("hands of " + hands + " and " + over + " more", x.landing(0, 6), 10 + over);
                due("crews", x.set(3, 0, 1), row[0]);
                due("rate", x.set(3, 1, 1), row[1]);
            }
        }
        for (int q = 0; q < 4; q++) {
            QuayBrands x = new QuayBrands();
            x.land(0, q, 0, 500, 1);
            x.land(0, q, 1, 501, 1);
            due("500 at first", x.landing(0, 6), 0);
            due("501 at first", x.landing(1, 6), 2);
            x.set((q + 1) % 4, 0, 9);
            x.set((q + 1) % 4, 1, 2000);
            due("another quay's crews", x.landing(1, 6), 2);
            x.set(q, 0, 2);
            due("its own crews", x.landing(1, 6), 1);
        }
    }

    /** "In order of HOURS, then numbers"; "of the first LANDING not done whose HOUR is not later, then of the next one". */
    private static void orderOfWork() {
        QuayBrands x = gutting(100);
        int[][] landings = {{6, 100, 7}, {5, 150, 6}, {6, 100, 8}, {5, 50, 6}, {2000, 1, 2000}, {0, 1, 0}, {8, 1, 9}};
        for (int[] l : landings) {
            x.land(0, 0, l[0], l[1], 1);
        }
        for (int i = 0; i < landings.length; i++) {
            due("last hour of landing " + i, x.landing(i, 6), landings[i][2]);
        }
        QuayBrands y = gutting(100);
        y.land(0, 0, 5, 50, 1);
        y.land(0, 0, 6, 100, 1);
        due("none is worked ahead of its hour", y.landing(1, 6), 6);
        y.land(0, 0, 5, 50, 1);
        due("what is left of an hour goes to the next one", y.landing(2, 6), 5);
        due("no more is left of it", y.landing(1, 6), 6);
        y.land(0, 0, 5, 1, 1);
        due("one fish too many for the hour", y.landing(3, 6), 6);
        due("the later one is then done later", y.landing(1, 6), 7);
        QuayBrands z = gutting(100);
        for (int i = 0; i < 5; i++) {
            z.land(0, 0, 7, 20, 1);
        }
        due("five in one hour", z.landing(4, 6), 7);
        z.land(0, 0, 7, 20, 1);
        due("the sixth by its number", z.landing(5, 6), 8);
        due("other quays have their own order", landed(z, 1), 7);
    }

    private static int landed(QuayBrands x, int quay) {
        return x.landing(x.land(0, quay, 7, 500, 1), 6);
    }

    /** "Fish that were not worked ahead of STALE HOURS (1 to 72; 24 at first) after their LANDING's HOUR are SPOILT". */
    private static void staleHours() {
        for (int stale : new int[] {1, 2, 24, 71, 72}) {
            for (int over = 0; over < 3; over++) {
                QuayBrands x = gutting(100);
                due("24 at first", x.rule(0, stale), 24);
                x.land(0, 0, 50, 100 * stale + over, 1);
                due("SPOILT of stale " + stale + " and " + over, x.landing(0, 5), over);
                due("last hour of stale " + stale + " and " + over, x.landing(0, 6), 50 + stale - 1);
                due("of all", x.told(8), over);
                due("of the quay", x.account(0, 0, 5), over);
            }
        }
        QuayBrands first = gutting(100);
        first.land(0, 0, 50, 2400, 1);
        first.land(0, 1, 50, 12001, 1);
        due("24 hours of 100 at first", first.landing(0, 5), 0);
        due("24 hours of 500 at first", first.landing(1, 5), 1);
    }

    /** A landing behind others has what is left of its own stale hours, or nothing. */
    private static void staleBehindOthers() {
        QuayBrands x = gutting(100);
        x.rule(0, 2);
        x.land(0, 0, 0, 300, 1);
        x.land(0, 0, 0, 1, 1);
        x.land(0, 0, 1, 100, 1);
        x.land(0, 0, 1, 1, 1);
        x.land(0, 0, 2, 200, 1);
        int[][] rows = {{100, 1}, {1, NONE}, {0, 2}, {1, NONE}, {100, 3}};
        for (int i = 0; i < rows.length; i++) {
            due("SPOILT of landing " + i, x.landing(i, 5), rows[i][0]);
            due("last hour of landing " + i, x.landing(i, 6), rows[i][1]);
        }
        due("SPOILT of the quay", x.account(0, 0, 5), 202);
        x.rule(0, 3);
        due("an hour more for the first", x.landing(0, 5), 0);
        due("and all of them are later", x.landing(4, 6), 4);
        due("SPOILT of the quay then", x.account(0, 0, 5), 102);
    }

    /** "(HOURS beyond 2000 go on likewise.)" */
    private static void beyondTheLastHour() {
        for (int over = 0; over < 2; over++) {
            QuayBrands x = gutting(1);
            x.rule(0, 72);
            x.rule(1, 100);
            x.land(0, 0, 2000, 72 + over, 1);
            due("the last hour of all", x.landing(0, 6), 2071);
            due("SPOILT behind it", x.landing(0, 5), over);
        }
        QuayBrands y = gutting(50);
        y.rule(1, 100);
        y.land(0, 0, 2000, 200, 3);
        dueBarrel("beyond 2000", y, 0, 0, new int[] {2001, 1, 2, 50, 0, 3, 1});
        dueBarrel("beyond 2000", y, 0, 1, new int[] {2003, 3, 2, 50, 0, 3, 1});
        y.salt(0, 2000, 9, 100);
        due("salt of the last hour goes on", y.barrel(0, 1, 4), 9);
    }

    /** "LANDINGS, 30 at most, numbered from 0 on"; five of them may wait. */
    private static void thirtyLandings() {
        QuayBrands x = new QuayBrands();
        for (int i = 0; i < 30; i++) {
            due("told(2)", x.told(2), i);
            due("landing " + i + " is not there yet", x.landing(i, 0), UNKNOWN);
            due("landing " + i, x.land(i % 10, i % 7 == 6 ? -1 : i % 4, 70 * i % 2001, i + 1, i % 9 + 1), i);
        }
        due("a 31st", x.land(0, 0, 0, 1, 1), FULL);
        due("a 31st that would wait", x.land(0, -1, 0, 1, 1), FULL);
        due("landing 30", x.landing(30, 0), UNKNOWN);
        for (int i = 0; i < 30; i++) {
            int[] row = {i % 10, i % 7 == 6 ? -1 : i % 4, 70 * i % 2001, i + 1, i % 9 + 1, 0};
            for (int what = 0; what < row.length; what++) {
                due("landing(" + i + ", " + what + ")", x.landing(i, what), row[what]);
            }
        }
        due("four wait", x.told(3), 4);
    }

    /** "NO: 5 WAIT already", of a new one and of one that has a quay; one that goes makes room for one. */
    private static void fiveWait() {
        QuayBrands x = new QuayBrands();
        for (int i = 0; i < 5; i++) {
            due("told(3)", x.told(3), i);
            due("one that waits", x.land(0, -1, 0, 800, 1), i);
        }
        due("a sixth", x.land(0, -1, 0, 800, 1), NO);
        due("one with a quay", x.land(0, 3, 0, 800, 1), 5);
        due("it may not wait", x.lead(5, -1), NO);
        due("its quay still", x.landing(5, 1), 3);
        due("one that waits may wait on", x.lead(2, -1), -1);
        due("one goes", x.lead(2, 0), -1);
        due("four wait", x.told(3), 4);
        due("now it may wait", x.lead(5, -1), 3);
        due("five wait", x.told(3), 5);
        due("the one that went may not come back", x.lead(2, -1), NO);
        due("nor a new one", x.land(0, -1, 0, 800, 1), NO);
        due("they go", x.settle(), 5);
        due("a new one", x.land(0, -1, 0, 800, 1), 6);
    }

    /** "6 the HOUR in which its last fish was worked (NONE: none was, or it WAITS)": one that waits is not worked. */
    private static void waitingIsNotWorked() {
        QuayBrands x = new QuayBrands();
        x.land(0, -1, 3, 800, 1);
        due("SPOILT", x.landing(0, 5), 0);
        due("its last hour", x.landing(0, 6), NONE);
        due("its quay", x.landing(0, 1), -1);
        due("barrels", x.told(9), 0);
        due("SPOILT of all", x.told(8), 0);
        for (int q = 0; q < 4; q++) {
            due("from where it was", x.lead(0, q), q - 1);
            due("its last hour at " + q, x.landing(0, 6), 4);
            due("its barrel at " + q, x.barrel(q, -1, 0), 1);
            due("barrels", x.told(9), 1);
        }
        due("to the same quay", x.lead(0, 3), 3);
        due("to wait", x.lead(0, -1), 3);
        due("its last hour", x.landing(0, 6), NONE);
        due("barrels", x.told(9), 0);
        x.rule(0, 1);
        x.land(0, 0, 3, 20000, 1);
        x.land(0, 0, 3, 20000, 1);
        due("SPOILT of one that waits still", x.landing(0, 5), 0);
        due("none was worked", x.landing(2, 6), NONE);
        due("all are SPOILT", x.landing(2, 5), 20000);
        due("all but 500", x.landing(1, 5), 19500);
        due("its only hour", x.landing(1, 6), 3);
    }

    /** "FULL of them (100 to 1500; 800 at first) to each": one too few, exactly so many, one more; the rest is LOOSE. */
    private static void fullOfThem() {
        for (int full : new int[] {100, 800, 1499, 1500}) {
            for (int fish = full - 1; fish <= full + 1; fish++) {
                for (int more = 0; more < 3; more++) {
                    QuayBrands x = gutting(2000);
                    due("800 at first", x.rule(1, full), 800);
                    x.land(0, 0, 0, fish + more * full, 1);
                    int barrels = (fish < full ? 0 : 1) + more;
                    due(fish + " and " + more + " times " + full, x.barrel(0, -1, 0), barrels);
                    due("of all", x.told(9), barrels);
                    due("ACCOUNT", x.account(0, 0, 3), barrels);
                    due("LOOSE", x.account(0, 0, 6), fish < full ? full - 1 : fish - full);
                    due("beyond the last", x.barrel(0, barrels, 0), UNKNOWN);
                    due("the last", x.barrel(0, barrels - 1, 5), barrels == 0 ? 0 : 1);
                }
            }
        }
        QuayBrands y = new QuayBrands();
        y.land(0, 1, 0, 799, 1);
        due("800 at first: 799", y.barrel(1, -1, 0), 0);
        y.land(0, 1, 2000, 1, 1);
        due("800 at first: one more", y.barrel(1, -1, 0), 1);
        due("DONE in the HOUR of its last fish", y.barrel(1, 0, 0), 2000);
        y.rule(0, 1);
        due("SPOILT fish are in no barrel", y.barrel(1, -1, 0), 0);
        due("nor LOOSE", y.account(1, 0, 6), 501);
    }

    /** "DONE in the HOUR of its last fish"; "How long a fish lay"; of more landings the most, the least, how many. */
    private static void barrelsOfMoreLandings() {
        QuayBrands x = gutting(100);
        x.rule(1, 200);
        x.land(0, 0, 10, 250, 7);
        x.land(1, 0, 11, 100, 9);
        x.land(2, 0, 12, 49, 2);
        x.land(3, 0, 20, 1, 8);
        x.land(4, 0, 21, 199, 6);
        // Hours 10, 11; 12 with 50 of the second, 13 with the other 50 and 49 of the third; 20; 21, 22.
        dueBarrel("one landing", x, 0, 0, new int[] {11, 1, 5, 50, 0, 7, 1});
        dueBarrel("four landings", x, 0, 1, new int[] {20, 2, 5, 50, 0, 2, 4});
        due("the last fish lacks one", x.barrel(0, -1, 0), 2);
        due("LOOSE", x.account(0, 0, 6), 199);
        x.land(5, 0, 22, 1, 3);
        dueBarrel("the last fish", x, 0, 2, new int[] {22, 1, 5, 50, 0, 3, 2});
        due("none is LOOSE", x.account(0, 0, 6), 0);
        QuayBrands y = gutting(100);
        y.rule(0, 72);
        y.rule(1, 100);
        y.land(0, 0, 0, 7200, 1);
        due("no hour", y.barrel(0, 0, 1), 0);
        due("the most hours that a fish can lie", y.barrel(0, 71, 1), 71);
        due("the last barrel", y.barrel(0, 72, 1), UNKNOWN);
        QuayBrands z = new QuayBrands();
        z.rule(1, 100);
        for (int i = 0; i < 30; i++) {
            z.land(i % 10, 0, 0, i == 29 ? 71 : 1, 9 - i % 9);
        }
        dueBarrel("thirty landings", z, 0, 0, new int[] {0, 0, 2, 50, 0, 1, 30});
    }

    /** "their size (1 to 9)": the least of a barrel, of each size alone, and beside one of 9. */
    private static void leastSize() {
        for (int size = 1; size <= 9; size++) {
            QuayBrands x = new QuayBrands();
            x.rule(1, 100);
            x.land(0, 0, 0, 100, size);
            x.land(0, 0, 1, 99, 9);
            x.land(0, 0, 2, 1, size);
            x.land(0, 0, 3, 1, size);
            x.land(0, 0, 4, 99, 9);
            for (int i = 0; i < 3; i++) {
                due("least size " + size, x.barrel(0, i, 5), size);
            }
        }
    }

    private static void dueBranded(String rule, int[][] landings, int branded) {
        QuayBrands x = Checks.acting("D:" + rule, 0);
        x.rule(1, 100);
        x.set(0, 1, 2000);
        x.salt(0, 1, 8, 9);
        for (int[] l : landings) {
            x.land(0, 0, l[0], l[1], l[2]);
        }
        int each = 0;
        for (int i = 0; i < x.barrel(0, -1, 0); i++) {
            each += x.brand(0, i, 0) == 3 ? 1 : 0;
        }
        due("branded by " + rule + ", each by itself", each, branded);
        due("branded by " + rule, x.account(0, 0, 4), branded);
        due("BOUNTY by " + rule, x.account(0, 0, 2), 4 * branded);
        due("left of those branded by " + rule, x.filled(0, 3, 2000, 0) * 100 + x.filled(0, 3, 2000, 1), 90 * branded);
    }

    /** Barrels of a quay behind one another that differ in one fact alone. */
    private static void barrelsThatDifferInOneFact() {
        // Twenty barrels in hour 0; in hour 1 one with fish that lay an hour, then one or two without.
        int[][] hours = {{0, 2050, 5}, {1, 250, 5}};
        dueBranded("h<1", hours, 22);
        dueBranded("h>0", hours, 1);
        dueBranded("h=0", hours, 22);
        int[][] sizes = {{0, 150, 5}, {0, 200, 4}, {0, 150, 5}};
        dueBranded("z=5", sizes, 2);
        dueBranded("z=4", sizes, 3);
        dueBranded("z>4", sizes, 2);
        int[][] smaller = {{0, 150, 5}, {0, 150, 3}};
        dueBranded("z=5", smaller, 1);
        dueBranded("z<4", smaller, 2);
        int[][] salts = {{0, 2000, 5}, {1, 300, 5}};
        dueBranded("s=50", salts, 20);
        dueBranded("s=9", salts, 3);
        dueBranded("q=0", salts, 23);
        dueBranded("q>0", salts, 0);
        int[][] rising = {{0, 2000, 5}, {0, 2000, 5}, {0, 300, 5}};
        dueBranded("h=0", rising, 20);
        dueBranded("h=1", rising, 20);
        dueBranded("h>1", rising, 3);
    }

    /** "Tiers: FULL by TIER (1 to 100; 40 at first)", cut. */
    private static void tiers() {
        int[][] rows = {{100, 100, 1}, {1500, 1, 1500}, {100, 1, 100}, {1500, 100, 15}, {199, 100, 1}, {200, 100, 2}, {119, 40, 2},
            {120, 40, 3},
            {800, 40, 20}, {839, 40, 20}, {840, 40, 21}};
        for (int[] row : rows) {
            QuayBrands x = gutting(1500);
            due("40 at first", x.rule(2, row[1]), 40);
            x.rule(1, row[0]);
            x.land(0, 0, 0, row[0], 1);
            due(row[0] + " by " + row[1], x.barrel(0, 0, 2), row[2]);
        }
    }

    /** "that of its HOUR (of the latest HOUR not later; of one HOUR the last told), lot 0 and 50 ahead of all". */
    private static void saltOfAnHour() {
        QuayBrands x = gutting(800);
        x.land(0, 0, 10, 2400, 1);
        dueSalts("ahead of all", x, 0, 50, 0, 50, 0, 50);
        x.salt(0, 13, 1, 11);
        dueSalts("an hour too late", x, 0, 50, 0, 50, 0, 50);
        x.salt(0, 11, 3, 30);
        dueSalts("from the second barrel's hour on", x, 0, 50, 3, 30, 3, 30);
        x.salt(0, 12, 4, 40);
        dueSalts("from the third one's", x, 0, 50, 3, 30, 4, 40);
        x.salt(0, 0, 9, 100);
        dueSalts("told last of the first hour", x, 9, 100, 3, 30, 4, 40);
        x.salt(0, 10, 5, 1);
        dueSalts("of the first barrel's hour", x, 5, 1, 3, 30, 4, 40);
        x.salt(0, 9, 6, 2);
        dueSalts("of an hour ahead of one told", x, 5, 1, 3, 30, 4, 40);
        x.salt(0, 11, 7, 61);
        dueSalts("of one hour the last told", x, 5, 1, 7, 61, 4, 40);
        x.salt(0, 11, 8, 62);
        dueSalts("of one hour the last of three", x, 5, 1, 8, 62, 4, 40);
        x.salt(1, 12, 2, 99);
        dueSalts("of another quay", x, 5, 1, 8, 62, 4, 40);
        QuayBrands y = gutting(400);
        y.land(0, 0, 10, 800, 1);
        y.salt(0, 12, 1, 1);
        due("behind the hour in which it is DONE", y.barrel(0, 0, 3), 50);
        y.salt(0, 11, 2, 2);
        due("in the hour in which it is DONE", y.barrel(0, 0, 3), 2);
        due("its lot", y.barrel(0, 0, 4), 2);
    }

    private static void dueSalts(String sentence, QuayBrands x, int... rows) {
        for (int i = 0; i < 3; i++) {
            due(sentence + ", lot of barrel " + i, x.barrel(0, i, 4), rows[2 * i]);
            due(sentence + ", salt of barrel " + i, x.barrel(0, i, 3), rows[2 * i + 1]);
        }
    }

    /** "(12 tellings at most in all)": of all quays together; the twelfth is in force, a thirteenth is not. */
    private static void twelveSalts() {
        QuayBrands x = new QuayBrands();
        for (int q = 0; q < 4; q++) {
            x.land(0, q, 2000, 800, 1);
        }
        for (int i = 0; i < 12; i++) {
            due("told(4)", x.told(4), i);
            due("telling " + i, x.salt(i % 4, 2000 - i % 2, i % 10, 1 + i), i + 1);
        }
        for (int q = 0; q < 4; q++) {
            due("a thirteenth", x.salt(q, 2000, 9, 99), FULL);
            due("the last told of quay " + q, x.barrel(q, 0, 3), 9 + q);
            due("its lot", x.barrel(q, 0, 4), (8 + q) % 10);
        }
        due("twelve", x.told(4), 12);
    }

    /** "that were DONE 240 HOURS ago or more", in the first and the last hours; "(by THE ACT of the DAY on which each is DONE)". */
    private static void pinedAfter240() {
        int[][] rows = {{0, 239, 0}, {0, 240, 720}, {23, 262, 0}, {23, 263, 720}, {1759, 2000, 720}, {1760, 2000, 720}, {1761, 2000, 0},
            {2000, 2000, 0}, {0, 0, 0}, {0, 2000, 720}};
        for (int[] row : rows) {
            QuayBrands x = Checks.acting("C:z>0", 0);
            x.set(1, 1, 800);
            x.land(0, 1, row[0], 800, 1);
            due("over in hour " + row[1] + " of one of hour " + row[0], x.filled(1, 2, row[1], 1), row[2]);
            due("FILLED AGAIN", x.filled(1, 2, row[1], 0), 0);
            for (int other : new int[] {0, 1, 3, 4, 5}) {
                due("of another grade", x.filled(1, other, row[1], 1), 0);
            }
            due("of another quay", x.filled(0, 2, row[1], 1), 0);
        }
        QuayBrands y = Checks.acting("A:z>0", 1);
        y.set(0, 1, 800);
        y.land(0, 0, 23, 2400, 1);
        due("no act on day 0, two on day 1", y.filled(0, 0, 2000, 0), 1);
        due("over", y.filled(0, 0, 2000, 1), 640);
        Checks.sayAll(y, "F:z>0");
        y.act(0);
        due("one by the act of day 0", y.filled(0, 5, 2000, 1), 720);
        due("two by the act of day 1 still", y.filled(0, 0, 2000, 0), 1);
        due("one of two is done 240 hours ago", y.filled(0, 0, 264, 1), 720);
        due("none of two is", y.filled(0, 0, 263, 1), 0);
        due("the one of day 0 is", y.filled(0, 5, 263, 1), 720);
    }

    /** "lost PINE hundredths of FULL (0 to 50; 10 at first), cut: what is left in all of them fills so many, and some fish are over". */
    private static void pineHundredths() {
        int[][] rows = {{800, 10, 1, 0, 720}, {800, 10, 2, 1, 640}, {800, 10, 9, 8, 80}, {800, 10, 10, 9, 0}, {800, 0, 1, 1, 0},
            {800, 0, 3, 3, 0},
            {800, 50, 1, 0, 400}, {800, 50, 2, 1, 0}, {100, 1, 1, 0, 99}, {199, 1, 1, 0, 198}, {101, 50, 1, 0, 51}, {101, 50, 2, 1, 1},
            {199, 50, 1, 0, 100},
            {105, 10, 1, 0, 95}, {1500, 50, 3, 1, 750}, {800, 10, 0, 0, 0}, {109, 9, 2, 1, 91}};
        for (int[] row : rows) {
            QuayBrands x = Checks.acting("A:z>0", 0);
            x.set(0, 0, 9);
            x.set(0, 1, 2000);
            due("10 at first", x.rule(3, row[1]), 10);
            x.rule(1, row[0]);
            x.land(0, 0, 0, Math.max(1, row[0] * row[2]), 1);
            String name = row[2] + " of " + row[0] + " that lost " + row[1];
            due(name, x.filled(0, 0, 240, 0), row[3]);
            due("over of " + name, x.filled(0, 0, 240, 1), row[4]);
        }
        QuayBrands none = new QuayBrands();
        none.land(0, 0, 0, 800, 1);
        due("without an act none is of a grade", none.filled(0, 0, 2000, 1), 0);
    }

    /** "which it was", of the last call that was taken. */
    private static void whichItWas() {
        int[] first = {24, 800, 40, 10, 1000, 5, 4};
        int[] lowest = {1, 100, 1, 0, 500, 0, 0};
        int[] highest = {72, 1500, 100, 50, 1500, 100, 100};
        QuayBrands x = new QuayBrands();
        for (int i = 0; i < 7; i++) {
            due("too low", x.rule(i, lowest[i] - 1), OUTSIDE);
            due("lowest", x.rule(i, lowest[i]), first[i]);
            due("too high", x.rule(i, highest[i] + 1), OUTSIDE);
            due("highest", x.rule(i, highest[i]), lowest[i]);
            due("the same again", x.rule(i, highest[i]), highest[i]);
        }
        for (int i = 0; i < 7; i++) {
            due("each has its own", x.rule(i, first[i]), highest[i]);
        }
        for (int q = 0; q < 4; q++) {
            due("crews", x.set(q, 0, 9 - q), 1);
            due("rate", x.set(q, 1, 2000 - q), 500);
        }
        for (int q = 0; q < 4; q++) {
            due("each quay has its own crews", x.set(q, 0, 1), 9 - q);
            due("each quay has its own rate", x.set(q, 1, 1), 2000 - q);
        }
    }

    public static void main(String[] args) {
        dayOfAnHour();
        crewsTimesRate();
        orderOfWork();
        staleHours();
        staleBehindOthers();
        beyondTheLastHour();
        thirtyLandings();
        fiveWait();
        waitingIsNotWorked();
        fullOfThem();
        barrelsOfMoreLandings();
        leastSize();
        barrelsThatDifferInOneFact();
        tiers();
        saltOfAnHour();
        twelveSalts();
        pinedAfter240();
        pineHundredths();
        whichItWas();
        Checks.end();
    }
}

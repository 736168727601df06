/** The document's sections 5 and 6, and promises 1, 27 to 33: each sentence that names an edge, on both its sides. */
public final class SpreadAndShipsEdgesTest {
    private static final int NONE = Checks.NONE, UNKNOWN = Checks.UNKNOWN, OUTSIDE = Checks.OUTSIDE, FULL = Checks.FULL;

    private SpreadAndShipsEdgesTest() {
    }

    private static void due(String sentence, int got, int want) {
        Checks.due(sentence, got, want);
    }

    /** "As told at first; no ACTS, LANDINGS, tellings; no BOAT is ENGAGED; SHIPS bear nothing on DAY 0." */
    private static void newObject() {
        Checks.due("NONE", QuayBrands.NONE, -6);
        Checks.due("UNKNOWN", QuayBrands.UNKNOWN, -1);
        Checks.due("OUTSIDE", QuayBrands.OUTSIDE, -2);
        Checks.due("STATE", QuayBrands.STATE, -3);
        Checks.due("FULL", QuayBrands.FULL, -4);
        Checks.due("NO", QuayBrands.NO, -5);
        QuayBrands x = new QuayBrands();
        for (int what = 0; what < 10; what++) {
            due("told(" + what + ")", x.told(what), 0);
        }
        due("fault", x.fault(), 0);
        due("no JUDGED BARREL", x.explained(), 0);
        due("no landing", x.landing(0, 0), UNKNOWN);
        due("no landing to lead", x.lead(0, 0), UNKNOWN);
        for (int q = 0; q < 4; q++) {
            due("no barrel", x.barrel(q, 0, 0), UNKNOWN);
            due("no barrel to brand", x.brand(q, 0, 0), UNKNOWN);
            due("nothing is filled again", x.filled(q, 0, 2000, 0), 0);
            due("nothing is over", x.filled(q, 0, 2000, 1), 0);
        }
        for (int day : new int[] {0, 1, 400}) {
            due("FREE", x.freeOn(day, day), 10);
            due("PRICE of GRADE 0", x.priceOn(0, day, day), 0);
            due("PRICE of GRADE 1", x.priceOn(1, day, day), 0);
        }
        x.price(0, 0, 1000, 0);
        x.price(1, 0, 1000, 0);
        for (int i = -1; i < 4; i++) {
            due("SHIPS bear nothing", x.load(20, 20, 400, i), 0);
        }
    }

    private static void dueSpread(String sentence, QuayBrands x, int spoilt, int... quays) {
        due(sentence + ", SPOILT", x.spread(-1), spoilt);
        for (int i = 0; i < quays.length; i++) {
            due(sentence + ", QUAY of " + i, x.spread(i), quays[i]);
        }
        for (int i : new int[] {quays.length, 5, -2, Checks.MIN, Checks.MAX}) {
            due(sentence + ", QUAY of " + i, x.spread(i), NONE);
        }
        due(sentence + ", they wait still", x.told(3), quays.length);
    }

    /** Stale after an hour, 500 an hour: so many quays from one on are taken in hour 5. */
    private static QuayBrands taken(int from, int behind) {
        QuayBrands x = new QuayBrands();
        x.rule(0, 1);
        for (int q = from; q < behind; q++) {
            x.land(9, q, 5, 500, 1);
        }
        return x;
    }

    /** "SPOILT fish of all (i = -1), the QUAY of the i-th LANDING that WAITS; NONE": of none, one, two .. five. */
    private static void spreadOfUpToFive() {
        int[][] quays = {{}, {0}, {0, 1}, {0, 1, 2}, {0, 1, 2, 3}, {0, 0, 1, 2, 3}};
        for (int count = 0; count <= 5; count++) {
            QuayBrands x = taken(0, 0);
            for (int i = 0; i < count; i++) {
                x.land(i, -1, 5, 500, 1);
            }
            dueSpread(count + " of one hour", x, count < 5 ? 0 : 500, quays[count]);
            x.rule(0, 2);
            dueSpread(count + " of one hour, stale after two", x, 0, count < 5 ? firstOfEach(count) : new int[] {0, 0, 1, 1, 2});
        }
        QuayBrands y = taken(0, 0);
        for (int i = 0; i < 5; i++) {
            y.land(i, -1, 5 + i, 500, 1);
        }
        dueSpread("five hours", y, 0, 0, 0, 0, 0, 0);
    }

    /** Two to a quay, stale after two hours. */
    private static int[] firstOfEach(int count) {
        int[] quays = new int[count];
        for (int i = 0; i < count; i++) {
            quays[i] = i / 2;
        }
        return quays;
    }

    /** "so that the fewest fish of all are SPOILT; of several the first by QUAYS in order of LANDINGS". */
    private static void firstBySpoilt() {
        for (int q = 0; q < 4; q++) {
            QuayBrands ahead = taken(0, q);
            ahead.land(0, -1, 5, 500, 1);
            dueSpread("taken ahead of " + q, ahead, 0, q);
            QuayBrands behind = taken(q + 1, 4);
            behind.land(0, -1, 5, 500, 1);
            dueSpread("taken behind " + q, behind, 0, 0);
        }
        QuayBrands all = taken(0, 4);
        all.land(0, -1, 5, 500, 1);
        dueSpread("all are taken", all, 500, 0);
        all.set(3, 1, 501);
        dueSpread("one fish is not SPOILT at 3", all, 499, 3);
        all.set(1, 1, 501);
        dueSpread("nor at 1", all, 499, 1);
        all.set(2, 0, 2);
        dueSpread("none is SPOILT at 2", all, 0, 2);
        all.land(0, 0, 3, 700, 1);
        dueSpread("SPOILT ones with a QUAY count too", all, 200, 2);
        QuayBrands two = taken(1, 4);
        two.land(0, -1, 5, 500, 1);
        two.land(0, -1, 5, 500, 1);
        dueSpread("two for one quay", two, 500, 0, 0);
        two.set(3, 0, 2);
        dueSpread("two for 0 and 3", two, 0, 0, 3);
        two.lead(4, 0);
        dueSpread("the one left", two, 0, 3);
    }

    /** "LANDINGS that WAIT .. all else as it is": one that comes ahead of others makes them wait, by hours and numbers. */
    private static void waitingAmongOthers() {
        QuayBrands x = new QuayBrands();
        x.rule(0, 2);
        x.land(0, 0, 5, 600, 1);
        x.land(1, -1, 4, 1000, 1);
        // At quay 0 the first has hours 4 and 5, so that 100 of the other are SPOILT.
        dueSpread("a free quay", x, 0, 1);
        for (int q = 1; q < 4; q++) {
            x.land(2, q, 5, 600 + q, 1);
        }
        dueSpread("all quays have another", x, 100, 0);
        x.lead(0, 3);
        dueSpread("quay 0 has none", x, 203, 0);
        QuayBrands y = new QuayBrands();
        y.rule(0, 1);
        y.land(0, -1, 5, 400, 1);
        y.land(1, 0, 5, 500, 1);
        y.land(2, 1, 5, 200, 1);
        y.land(3, 2, 5, 300, 1);
        y.land(4, 3, 5, 100, 1);
        dueSpread("room for all but so many", y, 0, 3);
        y.land(5, -1, 5, 300, 1);
        dueSpread("two that wait", y, 0, 3, 1);
        y.land(6, -1, 5, 201, 1);
        dueSpread("three that wait", y, 1, 3, 1, 2);
    }

    /** "LANDINGS that WAIT go as SPREAD tells: how many." */
    private static void settling() {
        for (int count = 0; count <= 5; count++) {
            QuayBrands x = taken(0, 2);
            x.land(9, 3, 0, 700, 1);
            for (int i = 0; i < count; i++) {
                x.land(i, -1, 5, 500, 1);
            }
            int spoilt = x.spread(-1);
            int[] quays = new int[count];
            for (int i = 0; i < count; i++) {
                quays[i] = x.spread(i);
            }
            due("SPOILT of those with a QUAY", x.told(8), 200);
            due("settle of " + count, x.settle(), count);
            due("none waits", x.told(3), 0);
            due("SPOILT as told", x.told(8), spoilt);
            due("SPOILT by two for two quays", spoilt, 200 + 500 * Math.max(0, count - 2));
            for (int i = 0; i < count; i++) {
                due("QUAY of " + i + " as told", x.landing(3 + i, 1), quays[i]);
            }
            due("the others stay", x.landing(0, 1) + 10 * x.landing(1, 1) + 100 * x.landing(2, 1), 310);
            due("settle again", x.settle(), 0);
            due("spread again", x.spread(-1), spoilt);
            due("none waits", x.spread(0), NONE);
            due("landings", x.told(2), 3 + count);
        }
    }

    /** "SHIPS 0 to 3: a DAY, and how many BARRELS each bears (0 to 20; 0 at first)". */
    private static void shipsBear() {
        for (int s = 0; s < 4; s++) {
            for (int bears : new int[] {0, 1, 19, 20}) {
                QuayBrands x = new QuayBrands();
                x.price(0, 0, 3, 0);
                x.price(1, 0, 2, 0);
                due("ship", x.ship(s, 400, bears), 1);
                due("GRADE 0 alone", x.load(20, 0, 0, -1), 3 * bears);
                due("GRADE 0 alone, the ship", x.load(20, 0, 0, s), 100 * bears);
                due("GRADE 1 alone", x.load(0, 20, 0, -1), 2 * bears);
                due("GRADE 1 alone, the ship", x.load(0, 20, 0, s), bears);
                due("both", x.load(20, 20, 0, s), 100 * bears);
                due("one of GRADE 0, all else of GRADE 1", x.load(1, 20, 0, s), bears == 0 ? 0 : 100 + bears - 1);
                due("too many", x.ship(s, 400, 21), OUTSIDE);
                due("still so many", x.load(20, 0, 0, -1), 3 * bears);
                for (int other = 0; other < 4; other++) {
                    due("another ship", x.load(20, 20, 0, other), other == s ? 100 * bears : 0);
                }
                due("without barrels", x.load(0, 0, 0, -1), 0);
                due("without barrels, the ship", x.load(0, 0, 0, s), 0);
            }
        }
        QuayBrands full = new QuayBrands();
        full.price(0, 0, 1000, 0);
        full.price(1, 0, 1000, 0);
        for (int s = 0; s < 4; s++) {
            full.ship(s, 0, 20);
        }
        int[] rows = {40000, 0, 0, 20, 2000};
        for (int i = -1; i < 4; i++) {
            due("forty for eighty places, " + i, full.load(20, 20, 0, i), rows[i + 1]);
        }
        due("SHIP 4", full.load(20, 20, 0, 4), NONE);
        due("SHIP -2", full.load(20, 20, 0, -2), NONE);
    }

    /** "PRICES on SHIPS' DAYS", "as known on a DAY": the day, the day ahead and the day behind. */
    private static void pricesOnShipsDays() {
        QuayBrands x = new QuayBrands();
        x.price(0, 7, 5, 3);
        x.price(1, 8, 6, 4);
        x.price(0, 8, 1, 5);
        int[][] rows = {{6, 400, 0, 0}, {7, 2, 0, 0}, {7, 3, 5, 0}, {7, 400, 5, 0}, {8, 3, 5, 0}, {8, 4, 5, 6}, {8, 5, 1, 6},
            {400, 4, 5, 6}, {400, 400, 1, 6}, {0, 400, 0, 0}};
        for (int[] row : rows) {
            x.ship(2, row[0], 1);
            due("PRICE of GRADE 0", x.priceOn(0, row[0], row[1]), row[2]);
            due("PRICE of GRADE 1", x.priceOn(1, row[0], row[1]), row[3]);
            due("one of GRADE 0 on day " + row[0] + " as known on " + row[1], x.load(1, 0, row[1], -1), row[2]);
            due("one of GRADE 1 on day " + row[0] + " as known on " + row[1], x.load(0, 1, row[1], -1), row[3]);
            due("one of both", x.load(1, 1, row[1], -1), Math.max(row[2], row[3]));
            due("what is borne", x.load(1, 1, row[1], 2), row[2] == 0 && row[3] == 0 ? 0 : row[2] > row[3] ? 100 : 1);
        }
    }

    /** "as FREE ones are (0 without any)": the latest day not later, of it the last that was told here; each GRADE its own. */
    private static void priceAsKnown() {
        QuayBrands x = new QuayBrands();
        for (int grade = 0; grade < 2; grade++) {
            int other = 1 - grade;
            QuayBrands y = new QuayBrands();
            y.price(grade, 7, 20, 9);
            y.price(grade, 7, 30, 8);
            y.price(grade, 9, 40, 8);
            y.price(other, 7, 77, 0);
            y.price(grade, 9, 0, 10);
            int[][] rows = {{7, 7, 0}, {7, 8, 30}, {7, 9, 30}, {6, 9, 0}, {8, 9, 30}, {9, 7, 0}, {9, 8, 40}, {9, 9, 40}, {9, 10, 0},
                {8, 10, 30}, {400, 400, 0}};
            for (int[] row : rows) {
                due("PRICE on " + row[0] + " as known on " + row[1], y.priceOn(grade, row[0], row[1]), row[2]);
            }
            due("the other GRADE", y.priceOn(other, 400, 0), 77);
            due("the other GRADE, the day ahead", y.priceOn(other, 6, 400), 0);
            for (int i = 0; i < 30; i++) {
                due("telling " + i + " of " + grade, x.price(grade, i, 100 * grade + i, 0), 30 * grade + i + 1);
            }
        }
        due("a 61st", x.price(0, 400, 1, 0), FULL);
        due("a 61st", x.price(1, 400, 1, 0), FULL);
        due("the sixtieth", x.priceOn(1, 400, 0), 129);
        due("the thirtieth", x.priceOn(0, 400, 0), 29);
        due("told(7)", x.told(7), 60);
        due("FREE ones have room of their own", x.free(0, 1, 0), 1);
    }

    private static int upTo(int n, int[] seed) {
        seed[0] = seed[0] * 1103515245 + 12345;
        return (seed[0] >>> 8) % n;
    }

    /** "of several the first by rows: SHIP 0's of GRADE 0, of GRADE 1, SHIP 1's .., less ahead of more": all rows tried in order. */
    private static void firstByRows() {
        int[] seed = {5};
        for (int run = 0; run < 300; run++) {
            QuayBrands x = new QuayBrands();
            int[][] ships = new int[4][];
            for (int s = 0; s < 4; s++) {
                ships[s] = new int[] {upTo(4, seed), upTo(3, seed), upTo(3, seed)};
                x.ship(s, s, ships[s][0]);
                x.price(0, s, ships[s][1], 0);
                x.price(1, s, ships[s][2], 0);
            }
            int first = upTo(5, seed);
            int second = upTo(5, seed);
            int[] best = {-1, 0, 0, 0, 0};
            tryRows(ships, 0, first, second, new int[5], best);
            for (int i = -1; i < 4; i++) {
                due("run " + run + ", load(" + first + ", " + second + ", 0, " + i + ")", x.load(first, second, 0, i), best[i + 1]);
            }
        }
    }

    /** A ship is what it bears, and its prices of both grades. */
    private static void tryRows(int[][] ships, int s, int first, int second, int[] row, int[] best) {
        if (s == 4) {
            if (row[0] > best[0]) {
                System.arraycopy(row, 0, best, 0, 5);
            }
            return;
        }
        for (int a = 0; a <= ships[s][0] && a <= first; a++) {
            for (int b = 0; a + b <= ships[s][0] && b <= second; b++) {
                int worth = a * ships[s][1] + b * ships[s][2];
                row[0] += worth;
                row[s + 1] = 100 * a + b;
                tryRows(ships, s + 1, first - a, second - b, row, best);
                row[0] -= worth;
            }
        }
    }

    /** Ties by hand: where it is as good, the earlier SHIP bears less, and of GRADE 0 less first. */
    private static void tiesByHand() {
        QuayBrands x = new QuayBrands();
        x.price(0, 0, 5, 0);
        x.price(1, 0, 5, 0);
        x.ship(0, 0, 1);
        x.ship(1, 0, 1);
        int[][] rows = {{1, 0, 0, 100, 0, 0}, {0, 1, 0, 1, 0, 0}, {1, 1, 1, 100, 0, 0}, {2, 0, 100, 100, 0, 0}, {2, 2, 1, 1, 0, 0},
            {2, 1, 1, 100, 0, 0}, {0, 0, 0, 0, 0, 0}};
        for (int[] row : rows) {
            for (int s = 0; s < 4; s++) {
                due("load(" + row[0] + ", " + row[1] + ", 0, " + s + ")", x.load(row[0], row[1], 0, s), row[s + 2]);
            }
        }
        x.price(0, 0, 0, 0);
        due("what fetches nothing is not borne", x.load(20, 0, 0, 1), 0);
        due("nor does it take a place", x.load(20, 1, 0, 1), 1);
        due("it comes to", x.load(20, 1, 0, -1), 5);
    }

    /** Each number of told(), as it grows by one and goes back. */
    private static void toldOfEach() {
        QuayBrands x = Checks.saying("A:h<1");
        due("signs", x.told(0), 5);
        x.act(0);
        due("signs", x.told(0), 0);
        due("ACTS", x.told(1), 1);
        x.rule(0, 1);
        x.land(0, 0, 0, 900, 1);
        x.land(0, 3, 0, 1700, 1);
        x.land(0, -1, 0, 20000, 1);
        due("LANDINGS", x.told(2), 3);
        due("those that WAIT", x.told(3), 1);
        due("SPOILT fish of all QUAYS", x.told(8), 400 + 1200);
        due("BARRELS of all", x.told(9), 0);
        x.set(0, 0, 2);
        x.set(3, 0, 4);
        due("SPOILT fish of all QUAYS", x.told(8), 0);
        due("BARRELS of all", x.told(9), 1 + 2);
        x.rule(1, 100);
        due("BARRELS of all", x.told(9), 9 + 17);
        x.settle();
        due("those that WAIT", x.told(3), 0);
        due("BARRELS of all", x.told(9), 9 + 17 + 5);
        due("SPOILT fish of all QUAYS", x.told(8), 19500);
        x.salt(3, 2000, 0, 1);
        due("tellings of SALT", x.told(4), 1);
        x.judge(0, 0, 0, false);
        due("JUDGED BARRELS", x.told(5), 1);
        x.absolve();
        due("JUDGED BARRELS", x.told(5), 0);
        x.free(0, 1, 400);
        due("tellings of FREE", x.told(6), 1);
        x.price(1, 400, 0, 400);
        due("tellings of PRICES", x.told(7), 1);
        for (int what : new int[] {-1, 10, Checks.MIN, Checks.MAX}) {
            due("told(" + what + ")", x.told(what), OUTSIDE);
        }
    }

    public static void main(String[] args) {
        newObject();
        spreadOfUpToFive();
        firstBySpoilt();
        waitingAmongOthers();
        settling();
        shipsBear();
        pricesOnShipsDays();
        priceAsKnown();
        firstByRows();
        tiesByHand();
        toldOfEach();
        Checks.end();
    }
}

/**
 * Every number that a call takes, at both its ends and beyond them, in an object that has room and in one that is full:
 * which refusal comes, that the first comes that fits, and that a refused call changes nothing.
 */
public final class RefusalsTest {
    private static final int NONE = Checks.NONE, UNKNOWN = Checks.UNKNOWN, OUTSIDE = Checks.OUTSIDE;
    private static final int FULL = Checks.FULL, NO = Checks.NO;
    // No refusal at all: the call answers a number from 0 on.
    private static final int TAKEN = 1;

    private RefusalsTest() {
    }

    /** A number of a call: the refusal that it brings beyond its ends, and the ends. */
    private static final class Place {
        final int refusal;
        final int lowest;
        final int highest;

        Place(int refusal, int lowest, int highest) {
            this.refusal = refusal;
            this.lowest = lowest;
            this.highest = highest;
        }
    }

    private interface Call {
        int on(QuayBrands x, int[] numbers);
    }

    private static Place known(int lowest, int highest) {
        return new Place(UNKNOWN, lowest, highest);
    }

    private static Place inside(int lowest, int highest) {
        return new Place(OUTSIDE, lowest, highest);
    }

    private static Place some(int lowest, int highest) {
        return new Place(NONE, lowest, highest);
    }

    private static int[] with(int[] numbers, int at, int v) {
        int[] changed = numbers.clone();
        changed[at] = v;
        return changed;
    }

    private static int[] beyond(Place p) {
        return new int[] {p.lowest - 1, p.highest + 1, Checks.MIN, Checks.MAX};
    }

    private static String text(String name, int[] numbers) {
        StringBuilder b = new StringBuilder(name).append("(");
        for (int i = 0; i < numbers.length; i++) {
            b.append(i == 0 ? "" : ", ").append(numbers[i]);
        }
        return b.append(")").toString();
    }

    /** UNKNOWN comes ahead of OUTSIDE, and both ahead of what only says that there is none. */
    private static int first(int one, int other) {
        return Math.max(one, other);
    }

    private static void refused(String name, Checks.Making making, Call call, int[] numbers, int want) {
        Checks.changesNothing(text(name, numbers), making, x -> call.on(x, numbers), want);
    }

    /** The good numbers are taken, or bring the refusal of a full object; each beyond its ends brings its own first. */
    private static void ends(String name, Checks.Making making, int whenGood, Call call, int[] good, Place... places) {
        for (int p = 0; p < places.length; p++) {
            taken(name, making, whenGood, call, with(good, p, places[p].lowest));
            taken(name, making, whenGood, call, with(good, p, places[p].highest));
            for (int v : beyond(places[p])) {
                refused(name, making, call, with(good, p, v), places[p].refusal);
                for (int other = 0; other < p; other++) {
                    int both = first(places[p].refusal, places[other].refusal);
                    refused(name, making, call, with(with(good, p, v), other, places[other].lowest - 1), both);
                    refused(name, making, call, with(with(good, p, v), other, places[other].highest + 1), both);
                }
            }
        }
    }

    private static void taken(String name, Checks.Making making, int whenGood, Call call, int[] numbers) {
        if (whenGood != TAKEN) {
            refused(name, making, call, numbers, whenGood);
            return;
        }
        int answer = call.on(making.make(), numbers);
        Checks.hold(text(name, numbers) + " is taken, answered " + answer, answer >= 0);
    }

    /** Some of all; seven landings, of which 1 and 5 wait. */
    private static QuayBrands some() {
        QuayBrands x = Checks.acting("B:h<2,z>3;A:z<9", 1);
        Checks.sayAll(x, "C:s>40;E:t>1");
        x.act(0);
        Checks.sayAll(x, "D:q<3,t>2;F:q=3");
        x.set(0, 0, 2);
        x.set(1, 1, 350);
        x.rule(0, 5);
        x.rule(2, 30);
        x.land(0, 0, 5, 3000, 4);
        x.land(1, -1, 6, 900, 9);
        x.land(2, 1, 7, 2500, 3);
        x.land(3, 2, 30, 1900, 6);
        x.land(0, 3, 31, 2100, 2);
        x.land(4, -1, 32, 700, 5);
        x.land(2, 0, 28, 800, 7);
        x.salt(0, 6, 3, 30);
        x.salt(2, 30, 4, 60);
        for (int i = 0; i < 5; i++) {
            x.judge(i / 2, 2 + i % 2, 7, i < 4);
        }
        x.engage(0, 0, 2, 15);
        x.engage(2, 1, 1, 7);
        x.free(0, 12, 3);
        x.free(1, 20, 4);
        x.ship(0, 3, 5);
        x.ship(1, 5, 6);
        x.ship(3, 400, 2);
        x.price(0, 2, 50, 1);
        x.price(1, 4, 60, 2);
        x.price(0, 6, 70, 3);
        return x;
    }

    private static QuayBrands fiveWait() {
        QuayBrands x = some();
        for (int i = 0; i < 3; i++) {
            x.land(i, -1, 8, 100, 1);
        }
        return x;
    }

    private static QuayBrands allLandings() {
        QuayBrands x = some();
        while (x.told(2) < 30) {
            x.land(8, 2, 50, 40, 8);
        }
        return x;
    }

    private static QuayBrands allLandingsAndFiveWait() {
        QuayBrands x = fiveWait();
        while (x.told(2) < 30) {
            x.land(8, 2, 50, 40, 8);
        }
        return x;
    }

    private static QuayBrands allSigns() {
        QuayBrands x = some();
        x.wipe();
        Checks.sayAll(x, "A:h<1,t>2,t>2,t>2,t>2,t>2,t>2,t>2,t>2,t>2,t>2,t>2,t>2,t>2999");
        return x;
    }

    private static QuayBrands allActs() {
        QuayBrands x = some();
        x.wipe();
        while (x.told(1) < 8) {
            Checks.sayAll(x, "F:z<9");
            x.act(7);
        }
        Checks.sayAll(x, "D:q<3");
        return x;
    }

    private static QuayBrands allActsAndAFault() {
        QuayBrands x = allActs();
        x.say(';');
        return x;
    }

    private static QuayBrands aFault() {
        QuayBrands x = some();
        x.say(',');
        return x;
    }

    private static QuayBrands allSalts() {
        QuayBrands x = some();
        while (x.told(4) < 12) {
            x.salt(1, 8, 5, 55);
        }
        return x;
    }

    private static QuayBrands allJudged() {
        QuayBrands x = some();
        while (x.told(5) < 24) {
            x.judge(5, 6, 8, true);
        }
        return x;
    }

    private static QuayBrands allFrees() {
        QuayBrands x = some();
        while (x.told(6) < 60) {
            x.free(2, 33, 5);
        }
        return x;
    }

    private static QuayBrands allPrices() {
        QuayBrands x = some();
        while (x.told(7) < 60) {
            x.price(x.told(7) % 2, 3, 44, 5);
        }
        return x;
    }

    private static void acts() {
        Call say = (x, n) -> x.say(n[0]);
        Call act = (x, n) -> x.act(n[0]);
        Place sign = inside(33, 126);
        Place day = inside(0, 400);
        ends("say", RefusalsTest::some, TAKEN, say, new int[] {65}, sign);
        ends("say, of sixty", RefusalsTest::allSigns, FULL, say, new int[] {65}, sign);
        ends("act", RefusalsTest::some, TAKEN, act, new int[] {5}, day);
        ends("act, of a fault", RefusalsTest::aFault, NO, act, new int[] {5}, day);
        ends("act, of no signs", QuayBrands::new, NO, act, new int[] {5}, day);
        ends("act, of eight", RefusalsTest::allActs, FULL, act, new int[] {5}, day);
        ends("act, of eight and a fault", RefusalsTest::allActsAndAFault, FULL, act, new int[] {5}, day);
        ends("grade", RefusalsTest::some, TAKEN, (x, n) -> x.grade(n[0], n[1]), new int[] {1, 0}, day, some(-1, 1));
    }

    private static void settings() {
        Call set = (x, n) -> x.set(n[0], n[1], n[2]);
        ends("set crews", RefusalsTest::some, TAKEN, set, new int[] {1, 0, 3}, known(0, 3), inside(0, 1), inside(1, 9));
        ends("set a rate", RefusalsTest::some, TAKEN, set, new int[] {1, 1, 7}, known(0, 3), inside(0, 1), inside(1, 2000));
        int[] lowest = {1, 100, 1, 0, 500, 0, 0};
        int[] highest = {72, 1500, 100, 50, 1500, 100, 100};
        for (int i = 0; i < lowest.length; i++) {
            int which = i;
            int[] good = {lowest[i]};
            ends("rule " + i, RefusalsTest::some, TAKEN, (x, n) -> x.rule(which, n[0]), good, inside(lowest[i], highest[i]));
        }
        Call rule = (x, n) -> x.rule(n[0], n[1]);
        for (int which : beyond(inside(0, 6))) {
            refused("rule", RefusalsTest::some, rule, new int[] {which, 1}, OUTSIDE);
            refused("rule", RefusalsTest::some, rule, new int[] {which, 100}, OUTSIDE);
        }
    }

    private static void landings() {
        Call land = (x, n) -> x.land(n[0], n[1], n[2], n[3], n[4]);
        Call toWait = (x, n) -> x.land(n[0], -1, n[1], n[2], n[3]);
        Place boat = known(0, 9);
        Place quay = known(-1, 3);
        Place hour = inside(0, 2000);
        Place fish = inside(1, 20000);
        Place size = inside(1, 9);
        int[] good = {4, 1, 9, 50, 5};
        int[] waits = {4, 9, 50, 5};
        ends("land", RefusalsTest::some, TAKEN, land, good, boat, quay, hour, fish, size);
        ends("land, of thirty", RefusalsTest::allLandings, FULL, land, good, boat, quay, hour, fish, size);
        for (int q = 0; q < 4; q++) {
            ends("land, five wait", RefusalsTest::fiveWait, TAKEN, land, with(good, 1, q), boat);
        }
        ends("land to wait, five wait", RefusalsTest::fiveWait, NO, toWait, waits, boat, hour, fish, size);
        ends("land to wait, thirty and five", RefusalsTest::allLandingsAndFiveWait, FULL, toWait, waits, boat, hour, fish, size);
        for (int q : new int[] {-2, 4, Checks.MIN, Checks.MAX}) {
            refused("land, five wait", RefusalsTest::fiveWait, land, new int[] {4, q, 2001, 0, 0}, UNKNOWN);
            refused("land, thirty and five", RefusalsTest::allLandingsAndFiveWait, land, new int[] {4, q, 9, 50, 5}, UNKNOWN);
        }
        Call lead = (x, n) -> x.lead(n[0], n[1]);
        ends("lead", RefusalsTest::some, TAKEN, lead, new int[] {2, 2}, known(0, 6), quay);
        for (int q = 0; q < 4; q++) {
            taken("lead, five wait", RefusalsTest::fiveWait, TAKEN, lead, new int[] {0, q});
        }
        for (int i : beyond(known(0, 9))) {
            refused("lead, five wait", RefusalsTest::fiveWait, lead, new int[] {i, 0}, UNKNOWN);
            refused("lead to wait, five wait", RefusalsTest::fiveWait, lead, new int[] {i, -1}, UNKNOWN);
        }
        for (int i : new int[] {0, 2, 3, 4, 6}) {
            refused("lead to wait, five wait", RefusalsTest::fiveWait, lead, new int[] {i, -1}, NO);
        }
        for (int i : new int[] {1, 5, 7, 8, 9}) {
            Checks.changesNothing("lead of one that waits, to wait", RefusalsTest::fiveWait, x -> x.lead(i, -1), -1);
        }
        ends("landing", RefusalsTest::some, TAKEN, (x, n) -> x.landing(n[0], n[1]), new int[] {2, 3}, known(0, 6), inside(0, 6));
        refused("landing, of none", QuayBrands::new, lead, new int[] {0, 0}, UNKNOWN);
    }

    private static void saltAndBarrels() {
        Call salt = (x, n) -> x.salt(n[0], n[1], n[2], n[3]);
        Place[] places = {known(0, 3), inside(0, 2000), inside(0, 9), inside(1, 100)};
        int[] good = {2, 9, 1, 9};
        ends("salt", RefusalsTest::some, TAKEN, salt, good, places);
        ends("salt, of twelve", RefusalsTest::allSalts, FULL, salt, good, places);
        Call barrel = (x, n) -> x.barrel(n[0], n[1], n[2]);
        ends("barrel", RefusalsTest::some, TAKEN, barrel, new int[] {0, 1, 3}, known(0, 3), known(-1, 3), inside(0, 6));
        ends("barrel, how many", RefusalsTest::some, TAKEN, barrel, new int[] {0, -1, 3}, known(0, 3), known(-1, 3), inside(0, 6));
        ends("barrel, of none", QuayBrands::new, TAKEN, barrel, new int[] {0, -1, 3}, known(0, 3), known(-1, -1), inside(0, 6));
        ends("brand", RefusalsTest::some, TAKEN, (x, n) -> x.brand(n[0], n[1], n[2]), new int[] {0, 1, 2},
            known(0, 3), known(0, 3), inside(0, 400));
        refused("brand, of none", QuayBrands::new, (x, n) -> x.brand(0, n[0], n[1]), new int[] {0, 401}, UNKNOWN);
        ends("filled", RefusalsTest::some, TAKEN, (x, n) -> x.filled(n[0], n[1], n[2], n[3]), new int[] {0, 1, 300, 1},
            known(0, 3), known(0, 5), inside(0, 2000), inside(0, 1));
    }

    private static void openedAndJudged() {
        Call open = (x, n) -> x.open(n[0], n[1], n[2]);
        for (int n : new int[] {1, 2, 15, 30}) {
            ends("open", RefusalsTest::some, TAKEN, (x, a) -> x.open(n, a[0], a[1]), new int[] {1, 5}, inside(1, n), inside(0, 99));
        }
        ends("open", RefusalsTest::some, TAKEN, open, new int[] {20, 1, 5}, inside(1, 30), inside(1, 20), inside(0, 99));
        Call judge = (x, n) -> x.judge(n[0], n[1], n[2], true);
        Call judgeGood = (x, n) -> x.judge(n[0], n[1], n[2], false);
        Place number = inside(0, 9);
        ends("judge", RefusalsTest::some, TAKEN, judge, new int[] {1, 2, 3}, number, number, number);
        ends("judge a good one", RefusalsTest::some, TAKEN, judgeGood, new int[] {1, 2, 3}, number, number, number);
        ends("judge, of 24", RefusalsTest::allJudged, FULL, judge, new int[] {1, 2, 3}, number, number, number);
        ends("judge a good one, of 24", RefusalsTest::allJudged, FULL, judgeGood, new int[] {1, 2, 3}, number, number, number);
        ends("cause", RefusalsTest::some, TAKEN, (x, n) -> x.cause(n[0]), new int[] {3}, inside(0, 29));
        ends("rival", RefusalsTest::some, TAKEN, (x, n) -> x.rival(n[0], 0), new int[] {0}, some(-1, 0));
        ends("rival 0", RefusalsTest::some, TAKEN, (x, n) -> x.rival(0, n[0]), new int[] {0}, some(0, 1));
    }

    private static void boatsAndPrices() {
        ends("engage", RefusalsTest::some, TAKEN, (x, n) -> x.engage(n[0], n[1], n[2], n[3]), new int[] {1, 2, 3, 4},
            known(0, 9), known(-1, 3), inside(0, 50), inside(1, 1000));
        ends("engage by none", RefusalsTest::some, TAKEN, (x, n) -> x.engage(n[0], -1, n[1], n[2]), new int[] {1, 3, 4},
            known(0, 9), inside(0, 50), inside(1, 1000));
        Place day = inside(0, 400);
        Call free = (x, n) -> x.free(n[0], n[1], n[2]);
        ends("free", RefusalsTest::some, TAKEN, free, new int[] {1, 2, 3}, day, inside(1, 1000), day);
        ends("free, of sixty", RefusalsTest::allFrees, FULL, free, new int[] {1, 2, 3}, day, inside(1, 1000), day);
        ends("freeOn", RefusalsTest::some, TAKEN, (x, n) -> x.freeOn(n[0], n[1]), new int[] {1, 2}, day, day);
        ends("cost", RefusalsTest::some, TAKEN, (x, n) -> x.cost(n[0], n[1], n[2], n[3]), new int[] {6, 0, 5, 0},
            known(0, 9), known(0, 3), day, inside(0, 2));
        ends("account", RefusalsTest::some, TAKEN, (x, n) -> x.account(n[0], n[1], n[2]), new int[] {1, 5, 0},
            known(0, 3), day, inside(0, 7));
        Call price = (x, n) -> x.price(n[0], n[1], n[2], n[3]);
        ends("price", RefusalsTest::some, TAKEN, price, new int[] {0, 1, 2, 3}, known(0, 1), day, inside(0, 1000), day);
        ends("price, of sixty", RefusalsTest::allPrices, FULL, price, new int[] {0, 1, 2, 3}, known(0, 1), day, inside(0, 1000), day);
        ends("priceOn", RefusalsTest::some, TAKEN, (x, n) -> x.priceOn(n[0], n[1], n[2]), new int[] {0, 1, 2}, known(0, 1), day, day);
    }

    private static void spreadAndShips() {
        ends("spread", RefusalsTest::some, TAKEN, (x, n) -> x.spread(n[0]), new int[] {0}, some(-1, 1));
        ends("spread of five", RefusalsTest::fiveWait, TAKEN, (x, n) -> x.spread(n[0]), new int[] {0}, some(-1, 4));
        ends("spread of none", QuayBrands::new, TAKEN, (x, n) -> x.spread(n[0]), new int[] {-1}, some(-1, -1));
        Place day = inside(0, 400);
        ends("ship", RefusalsTest::some, TAKEN, (x, n) -> x.ship(n[0], n[1], n[2]), new int[] {2, 7, 7},
            known(0, 3), day, inside(0, 20));
        ends("load", RefusalsTest::some, TAKEN, (x, n) -> x.load(n[0], n[1], n[2], n[3]), new int[] {5, 6, 7, 0},
            inside(0, 20), inside(0, 20), day, some(-1, 3));
        ends("told", RefusalsTest::some, TAKEN, (x, n) -> x.told(n[0]), new int[] {5}, inside(0, 9));
    }

    private static void changesNothing(String name, Checks.Asking call) {
        Checks.Making[] all = {QuayBrands::new, RefusalsTest::some, RefusalsTest::fiveWait};
        for (Checks.Making making : all) {
            Checks.changesNothing(name, making, call, call.of(making.make()));
        }
    }

    /** A call that only asks changes nothing, refused or not. */
    private static void asking() {
        changesNothing("fault()", QuayBrands::fault);
        changesNothing("grade", x -> x.grade(1, 0));
        changesNothing("brand", x -> x.brand(0, 1, 1));
        changesNothing("landing", x -> x.landing(0, 6));
        changesNothing("barrel", x -> x.barrel(0, 1, 1));
        changesNothing("filled", x -> x.filled(0, 1, 2000, 1));
        changesNothing("open", x -> x.open(30, 15, 1));
        changesNothing("cause", x -> x.cause(0));
        changesNothing("explained", QuayBrands::explained);
        changesNothing("rival", x -> x.rival(0, 0));
        changesNothing("freeOn", x -> x.freeOn(400, 400));
        changesNothing("cost", x -> x.cost(0, 0, 400, 1));
        changesNothing("account", x -> x.account(0, 400, 7));
        changesNothing("spread", x -> x.spread(0));
        changesNothing("priceOn", x -> x.priceOn(0, 400, 400));
        changesNothing("load", x -> x.load(20, 20, 400, 3));
        changesNothing("told", x -> x.told(9));
    }

    public static void main(String[] args) {
        acts();
        settings();
        landings();
        saltAndBarrels();
        openedAndJudged();
        boatsAndPrices();
        spreadAndShips();
        asking();
        Checks.end();
    }
}

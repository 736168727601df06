/**
 * Herrings from the boats to the ships: landings worked by crews, barrels graded by acts, what they cost,
 * where they go and what they fetch. README.md says how to use it.
 *
 * Every row is made with the object and used again by each call, so that no call makes an object.
 */
public final class QuayBrands {
    public static final int NONE = -6, UNKNOWN = -1, OUTSIDE = -2, STATE = -3, FULL = -4, NO = -5;

    private static final int QUAYS = 4, BOATS = 10, SHIPS = 4, GRADES = 6, PRICED_GRADES = 2;
    private static final int LAST_HOUR = 2000, LAST_DAY = 400, HOURS_OF_DAY = 24, PINED_AFTER = 240;
    // Barrels are done in hours beyond 2000 too, as long as their fish are not stale.
    private static final int BEHIND_ALL_HOURS = 3000;
    private static final int NO_QUAY = -1, MOST_WAITING = 5, MOST_LANDINGS = 30;
    private static final int MOST_SIGNS = 60, MOST_ACTS = 8, MOST_SALTS = 12, MOST_JUDGED = 24, MOST_PRICES = 60;
    private static final int CAUSES = 30, MOST_CAUSES = 3, MOST_OPENED = 30, MOST_BORNE = 20;
    private static final int STALE = 0, FILLING = 1, TIER = 2, PINE = 3, CRAN = 4, WAGE = 5, BOUNTY = 6, RULES = 7;
    private static final int FREE_WITHOUT = 10, PRICE_WITHOUT = 0;
    private static final int FIRST_LOT = 0, FIRST_SALT = 50;

    private static final int[] RULE_LOWEST = {1, 100, 1, 0, 500, 0, 0};
    private static final int[] RULE_HIGHEST = {72, 1500, 100, 50, 1500, 100, 100};

    private final Draft draft;
    private final Acts acts;
    private final int[] rules;
    private final Landings landings;
    private final Cask cask;
    private final Salts salts;
    private final int[] facts;
    private final Judged judged;
    private final Boats boats;
    private final Forecasts frees;
    private final Forecasts prices;
    private final Spreading spreading;
    private final Fleet fleet;

    public QuayBrands() {
        draft = new Draft();
        acts = new Acts();
        rules = new int[] {24, 800, 40, 10, 1000, 5, 4};
        landings = new Landings();
        cask = new Cask();
        salts = new Salts();
        facts = new int[Acts.FACTS];
        judged = new Judged();
        boats = new Boats();
        frees = new Forecasts();
        prices = new Forecasts();
        spreading = new Spreading();
        fleet = new Fleet();
    }

    // ---- 1 acts

    public int say(int sign) {
        if (!within(sign, 33, 126)) {
            return OUTSIDE;
        }
        if (draft.count >= MOST_SIGNS) {
            return FULL;
        }
        return draft.add(sign);
    }

    public int wipe() {
        return draft.clear();
    }

    public int fault() {
        return draft.firstFault();
    }

    public int act(int day) {
        if (!isDay(day)) {
            return OUTSIDE;
        }
        if (acts.count >= MOST_ACTS) {
            return FULL;
        }
        if (draft.firstFault() != NONE) {
            return NO;
        }
        acts.add(day, draft);
        draft.clear();
        return acts.count;
    }

    public int brand(int quay, int barrel, int day) {
        if (!isQuay(quay)) {
            return UNKNOWN;
        }
        work();
        if (!within(barrel, 0, barrelsAt(quay) - 1)) {
            return UNKNOWN;
        }
        if (!isDay(day)) {
            return OUTSIDE;
        }
        measureOne(quay, barrel);
        return brandOfCask(day);
    }

    public int grade(int day, int i) {
        if (!isDay(day)) {
            return OUTSIDE;
        }
        return i == -1 ? acts.gradesOn(day) : acts.gradeAt(day, i);
    }

    // ---- 2 quays

    public int set(int quay, int what, int v) {
        if (!isQuay(quay)) {
            return UNKNOWN;
        }
        if (!within(what, 0, 1) || !within(v, 1, what == 0 ? 9 : 2000)) {
            return OUTSIDE;
        }
        int[] row = what == 0 ? landings.crews : landings.rates;
        int was = row[quay];
        row[quay] = v;
        return was;
    }

    public int rule(int which, int v) {
        if (!within(which, 0, RULES - 1) || !within(v, RULE_LOWEST[which], RULE_HIGHEST[which])) {
            return OUTSIDE;
        }
        int was = rules[which];
        rules[which] = v;
        return was;
    }

    public int land(int boat, int quay, int hour, int fish, int size) {
        if (!isBoat(boat) || !isQuayOrNone(quay)) {
            return UNKNOWN;
        }
        if (!isHour(hour) || !within(fish, 1, 20000) || !within(size, 1, 9)) {
            return OUTSIDE;
        }
        if (landings.count >= MOST_LANDINGS) {
            return FULL;
        }
        if (quay == NO_QUAY && landings.waiting() >= MOST_WAITING) {
            return NO;
        }
        return landings.add(boat, quay, hour, fish, size);
    }

    public int lead(int landing, int quay) {
        if (!isLanding(landing) || !isQuayOrNone(quay)) {
            return UNKNOWN;
        }
        int was = landings.quays[landing];
        // One that waits already has its place among those that wait, and may keep it.
        if (quay == NO_QUAY && was != NO_QUAY && landings.waiting() >= MOST_WAITING) {
            return NO;
        }
        landings.quays[landing] = quay;
        return was;
    }

    public int landing(int i, int what) {
        if (!isLanding(i)) {
            return UNKNOWN;
        }
        switch (what) {
            case 0: return landings.boats[i];
            case 1: return landings.quays[i];
            case 2: return landings.hours[i];
            case 3: return landings.fish[i];
            case 4: return landings.sizes[i];
            case 5: work(); return landings.spoiltOf(i);
            case 6: work(); return landings.lastHourOf(i);
            default: return OUTSIDE;
        }
    }

    public int salt(int quay, int hour, int lot, int much) {
        if (!isQuay(quay)) {
            return UNKNOWN;
        }
        if (!isHour(hour) || !within(lot, 0, 9) || !within(much, 1, 100)) {
            return OUTSIDE;
        }
        if (salts.count >= MOST_SALTS) {
            return FULL;
        }
        return salts.add(quay, hour, lot, much);
    }

    public int barrel(int quay, int i, int what) {
        if (!isQuay(quay)) {
            return UNKNOWN;
        }
        work();
        int barrels = barrelsAt(quay);
        if (!within(i, -1, barrels - 1)) {
            return UNKNOWN;
        }
        if (!within(what, 0, 6)) {
            return OUTSIDE;
        }
        if (i == -1) {
            return barrels;
        }
        measureOne(quay, i);
        return ofCask(what);
    }

    public int filled(int quay, int grade, int hour, int what) {
        if (!isQuay(quay) || !within(grade, 0, GRADES - 1)) {
            return UNKNOWN;
        }
        if (!isHour(hour) || !within(what, 0, 1)) {
            return OUTSIDE;
        }
        work();
        int full = rules[FILLING];
        int left = (full - full * rules[PINE] / 100) * countBranded(quay, grade, hour - PINED_AFTER);
        return what == 0 ? left / full : left % full;
    }

    // ---- 3 opened, causes

    public int open(int n, int d, int r) {
        if (!within(n, 1, MOST_OPENED) || !within(d, 1, n) || !within(r, 0, 99)) {
            return OUTSIDE;
        }
        long all = choose(n, d);
        for (int opened = 1; opened < n; opened++) {
            // The bad ones are all among those that stay shut: so many of all the ways to place them.
            if (100 * choose(n - opened, d) <= r * all) {
                return opened;
            }
        }
        return n;
    }

    public int judge(int crew, int lot, int sixes, boolean reject) {
        if (!within(crew, 0, 9) || !within(lot, 0, 9) || !within(sixes, 0, 9)) {
            return OUTSIDE;
        }
        if (judged.count >= MOST_JUDGED) {
            return FULL;
        }
        return judged.add(crew, lot, sixes, reject);
    }

    public int absolve() {
        return judged.clear();
    }

    public int cause(int c) {
        if (!within(c, 0, CAUSES - 1)) {
            return OUTSIDE;
        }
        return judged.mayBe(c) ? 1 : 0;
    }

    public int explained() {
        return judged.fewest();
    }

    public int rival(int i, int k) {
        int size = judged.fewest();
        if (i == -1) {
            return size == NONE ? 0 : judged.explaining(size, NONE);
        }
        if (i < 0 || !within(k, 0, size - 1)) {
            return NONE;
        }
        return judged.explaining(size, i) > i ? judged.chosenCause(k) : NONE;
    }

    // ---- 4 boats, prices

    public int engage(int boat, int quay, int crans, int price) {
        if (!isBoat(boat) || !isQuayOrNone(quay)) {
            return UNKNOWN;
        }
        if (!within(crans, 0, 50) || !within(price, 1, 1000)) {
            return OUTSIDE;
        }
        boats.bind(boat, quay, crans, price);
        return 1;
    }

    public int free(int day, int price, int told) {
        if (!isDay(day) || !within(price, 1, 1000) || !isDay(told)) {
            return OUTSIDE;
        }
        if (frees.count >= MOST_PRICES) {
            return FULL;
        }
        return frees.add(0, day, price, told);
    }

    public int freeOn(int day, int known) {
        if (!isDay(day) || !isDay(known)) {
            return OUTSIDE;
        }
        return freePrice(day, known);
    }

    public int cost(int boat, int quay, int known, int what) {
        if (!isBoat(boat) || !isQuay(quay)) {
            return UNKNOWN;
        }
        if (!isDay(known) || !within(what, 0, 2)) {
            return OUTSIDE;
        }
        switch (what) {
            case 0: return costOf(boat, quay, known, boats.agreedAt(boat, quay, rules[CRAN]));
            case 1: return savedBy(boat, quay, known);
            default: return landings.fishOf(boat, quay);
        }
    }

    public int account(int quay, int known, int what) {
        if (!isQuay(quay)) {
            return UNKNOWN;
        }
        if (!isDay(known) || !within(what, 0, 7)) {
            return OUTSIDE;
        }
        work();
        switch (what) {
            case 0: return costsAt(quay, known);
            case 1: return wagesAt(quay);
            case 2: return bountyAt(quay);
            case 3: return barrelsAt(quay);
            case 4: return brandedAt(quay);
            case 5: return landings.spoiltAt(quay);
            case 6: return landings.totals[quay] % rules[FILLING];
            default: return costsAt(quay, known) + wagesAt(quay) - bountyAt(quay);
        }
    }

    // ---- 5 spread

    public int spread(int i) {
        if (!within(i, -1, landings.waiting() - 1)) {
            return NONE;
        }
        spreading.plan(landings, rules[STALE]);
        return i == -1 ? spreading.fewest : spreading.quayOf(i);
    }

    public int settle() {
        spreading.plan(landings, rules[STALE]);
        for (int i = 0; i < spreading.count; i++) {
            landings.quays[spreading.numbers[i]] = spreading.quayOf(i);
        }
        return spreading.count;
    }

    // ---- 6 ships

    public int ship(int ship, int day, int bears) {
        if (!within(ship, 0, SHIPS - 1)) {
            return UNKNOWN;
        }
        if (!isDay(day) || !within(bears, 0, MOST_BORNE)) {
            return OUTSIDE;
        }
        fleet.days[ship] = day;
        fleet.bears[ship] = bears;
        return 1;
    }

    public int price(int grade, int day, int price, int told) {
        if (!within(grade, 0, PRICED_GRADES - 1)) {
            return UNKNOWN;
        }
        if (!isDay(day) || !within(price, 0, 1000) || !isDay(told)) {
            return OUTSIDE;
        }
        if (prices.count >= MOST_PRICES) {
            return FULL;
        }
        return prices.add(grade, day, price, told);
    }

    public int priceOn(int grade, int day, int known) {
        if (!within(grade, 0, PRICED_GRADES - 1)) {
            return UNKNOWN;
        }
        if (!isDay(day) || !isDay(known)) {
            return OUTSIDE;
        }
        return prices.find(grade, day, known, PRICE_WITHOUT);
    }

    public int load(int first, int second, int known, int i) {
        if (!within(first, 0, MOST_BORNE) || !within(second, 0, MOST_BORNE) || !isDay(known)) {
            return OUTSIDE;
        }
        if (!within(i, -1, SHIPS - 1)) {
            return NONE;
        }
        for (int s = 0; s < SHIPS; s++) {
            fleet.firstPrices[s] = prices.find(0, fleet.days[s], known, PRICE_WITHOUT);
            fleet.secondPrices[s] = prices.find(1, fleet.days[s], known, PRICE_WITHOUT);
        }
        fleet.plan(first, second);
        return i == -1 ? fleet.worth(0, first, second) : fleet.borneBy(i, first, second);
    }

    public int told(int what) {
        switch (what) {
            case 0: return draft.count;
            case 1: return acts.count;
            case 2: return landings.count;
            case 3: return landings.waiting();
            case 4: return salts.count;
            case 5: return judged.count;
            case 6: return frees.count;
            case 7: return prices.count;
            case 8: return spoiltOfAll();
            case 9: return barrelsOfAll();
            default: return OUTSIDE;
        }
    }

    // ---- what the calls share

    private static boolean within(int v, int lowest, int highest) {
        return v >= lowest && v <= highest;
    }

    private static boolean isDay(int v) {
        return within(v, 0, LAST_DAY);
    }

    private static boolean isHour(int v) {
        return within(v, 0, LAST_HOUR);
    }

    private static boolean isBoat(int v) {
        return within(v, 0, BOATS - 1);
    }

    private static boolean isQuay(int v) {
        return within(v, 0, QUAYS - 1);
    }

    private static boolean isQuayOrNone(int v) {
        return v == NO_QUAY || isQuay(v);
    }

    private boolean isLanding(int v) {
        return within(v, 0, landings.count - 1);
    }

    private static long choose(int n, int k) {
        if (k > n) {
            return 0;
        }
        long ways = 1;
        for (int j = 1; j <= k; j++) {
            ways = ways * (n - k + j) / j;
        }
        return ways;
    }

    private void work() {
        landings.work(rules[STALE]);
    }

    private int barrelsAt(int quay) {
        return landings.totals[quay] / rules[FILLING];
    }

    private int barrelsOfAll() {
        work();
        int sum = 0;
        for (int q = 0; q < QUAYS; q++) {
            sum += barrelsAt(q);
        }
        return sum;
    }

    private int spoiltOfAll() {
        work();
        int sum = 0;
        for (int q = 0; q < QUAYS; q++) {
            sum += landings.spoiltAt(q);
        }
        return sum;
    }

    private void measureOne(int quay, int barrel) {
        cask.start(quay);
        landings.measure(cask, barrel, rules[FILLING]);
    }

    private int tiers() {
        return rules[FILLING] / rules[TIER];
    }

    private int ofCask(int what) {
        switch (what) {
            case 0: return cask.done;
            case 1: return cask.most;
            case 2: return tiers();
            case 3: return salts.muchAt(cask.quay, cask.done);
            case 4: return salts.lotAt(cask.quay, cask.done);
            case 5: return cask.least;
            default: return cask.parts;
        }
    }

    private int brandOfCask(int day) {
        facts[0] = cask.most;
        facts[1] = tiers();
        facts[2] = salts.muchAt(cask.quay, cask.done);
        facts[3] = cask.least;
        facts[4] = cask.quay;
        return acts.brandOn(day, facts);
    }

    /** Barrels of a grade (NONE: of any) that were done in an hour or ahead of it. */
    private int countBranded(int quay, int grade, int latest) {
        int barrels = barrelsAt(quay);
        int counted = 0;
        int brand = NONE;
        cask.start(quay);
        for (int i = 0; i < barrels; i++) {
            landings.measure(cask, i, rules[FILLING]);
            if (cask.done > latest) {
                return counted;
            }
            // Most barrels are like the one ahead of them: then the act need not be read again.
            if (!cask.likeLast) {
                brand = brandOfCask(cask.done / HOURS_OF_DAY);
            }
            if (brand != NONE && (grade == NONE || brand == grade)) {
                counted++;
            }
        }
        return counted;
    }

    private int brandedAt(int quay) {
        return countBranded(quay, NONE, BEHIND_ALL_HOURS);
    }

    private int wagesAt(int quay) {
        return rules[WAGE] * barrelsAt(quay);
    }

    private int bountyAt(int quay) {
        return rules[BOUNTY] * brandedAt(quay);
    }

    private int freePrice(int day, int known) {
        return frees.find(0, day, known, FREE_WITHOUT);
    }

    /** The first so many fish at the price agreed, all others at the free one. */
    private int costOf(int boat, int quay, int known, int agreed) {
        int cran = rules[CRAN];
        int left = agreed;
        int sum = 0;
        for (int p = 0; p < landings.count; p++) {
            int n = landings.order[p];
            if (landings.boats[n] == boat && landings.quays[n] == quay) {
                int part = Math.min(left, landings.fish[n]);
                left -= part;
                sum += part * boats.prices[boat] / cran;
                int others = landings.fish[n] - part;
                sum += others * freePrice(landings.hours[n] / HOURS_OF_DAY, known) / cran;
            }
        }
        return sum;
    }

    private int savedBy(int boat, int quay, int known) {
        return costOf(boat, quay, known, 0)
            - costOf(boat, quay, known, boats.agreedAt(boat, quay, rules[CRAN]));
    }

    private int costsAt(int quay, int known) {
        int sum = 0;
        for (int b = 0; b < BOATS; b++) {
            sum += costOf(b, quay, known, boats.agreedAt(b, quay, rules[CRAN]));
        }
        return sum;
    }

    /** The signs said, not yet an act. */
    private static final class Draft {
        private static final int BROKEN = -1, AT_LETTER = 0, AT_COLON = 1, AT_FACT = 2, AT_COMPARER = 3, AT_NUMBER = 4;
        private static final int ONE_DIGIT = 5, FOUR_DIGITS = 8;
        private static final int ALL_LETTERS = 63;

        final int[] signs;
        int count;

        Draft() {
            signs = new int[MOST_SIGNS];
        }

        int add(int sign) {
            signs[count] = sign;
            count++;
            return count;
        }

        int clear() {
            int were = count;
            count = 0;
            return were;
        }

        int firstFault() {
            int state = AT_LETTER;
            int letters = 0;
            for (int p = 0; p < count; p++) {
                int next = following(state, signs[p], letters);
                if (next == BROKEN) {
                    return p;
                }
                if (state == AT_LETTER) {
                    letters |= 1 << Acts.letterOf(signs[p]);
                }
                state = next;
            }
            return state >= ONE_DIGIT ? NONE : count;
        }

        private static int following(int state, int sign, int letters) {
            switch (state) {
                case AT_LETTER: return isNewLetter(sign, letters) ? AT_COLON : BROKEN;
                case AT_COLON: return sign == ':' ? AT_FACT : BROKEN;
                case AT_FACT: return Acts.factOf(sign) != NONE ? AT_COMPARER : BROKEN;
                case AT_COMPARER: return Acts.isComparer(sign) ? AT_NUMBER : BROKEN;
                case AT_NUMBER: return Acts.isDigit(sign) ? ONE_DIGIT : BROKEN;
                default: return behindDigit(state, sign, letters);
            }
        }

        private static boolean isNewLetter(int sign, int letters) {
            int letter = Acts.letterOf(sign);
            return letter != NONE && (letters >> letter & 1) == 0;
        }

        private static int behindDigit(int state, int sign, int letters) {
            if (sign == ',') {
                return AT_FACT;
            }
            if (sign == ';') {
                // With all letters used no grade can follow, so that this sign is the fault itself.
                return letters == ALL_LETTERS ? BROKEN : AT_LETTER;
            }
            return Acts.isDigit(sign) && state < FOUR_DIGITS ? state + 1 : BROKEN;
        }
    }

    /** The acts, each as a row of rules: a grade's rules stand together, in the order of the text. */
    private static final class Acts {
        static final int FACTS = 5;
        // 60 signs hold 14 rules at most: five signs for the first, four for each other.
        private static final int WIDTH = 15;

        final int[] days;
        final int[] lengths;
        final int[] letters;
        final int[] kinds;
        final int[] comparers;
        final int[] numbers;
        int count;

        Acts() {
            days = new int[MOST_ACTS];
            lengths = new int[MOST_ACTS];
            letters = new int[MOST_ACTS * WIDTH];
            kinds = new int[MOST_ACTS * WIDTH];
            comparers = new int[MOST_ACTS * WIDTH];
            numbers = new int[MOST_ACTS * WIDTH];
        }

        static int letterOf(int sign) {
            return within(sign, 'A', 'F') ? sign - 'A' : NONE;
        }

        static int factOf(int sign) {
            switch (sign) {
                case 'h': return 0;
                case 't': return 1;
                case 's': return 2;
                case 'z': return 3;
                case 'q': return 4;
                default: return NONE;
            }
        }

        static boolean isComparer(int sign) {
            return within(sign, '<', '>');
        }

        static boolean isDigit(int sign) {
            return within(sign, '0', '9');
        }

        /** Takes a draft without a fault. */
        void add(int day, Draft draft) {
            int rows = 0;
            int letter = 0;
            int kind = 0;
            int base = count * WIDTH;
            for (int p = 0; p < draft.count; p++) {
                int sign = draft.signs[p];
                if (letterOf(sign) != NONE) {
                    letter = letterOf(sign);
                } else if (factOf(sign) != NONE) {
                    kind = factOf(sign);
                } else if (isComparer(sign) && rows < WIDTH) {
                    letters[base + rows] = letter;
                    kinds[base + rows] = kind;
                    comparers[base + rows] = sign;
                    numbers[base + rows] = 0;
                    rows++;
                } else if (isDigit(sign) && rows > 0) {
                    numbers[base + rows - 1] = numbers[base + rows - 1] * 10 + sign - '0';
                }
            }
            days[count] = day;
            lengths[count] = rows;
            count++;
        }

        private int actOn(int day) {
            int found = NONE;
            for (int a = 0; a < count; a++) {
                if (days[a] <= day && (found == NONE || days[a] >= days[found])) {
                    found = a;
                }
            }
            return found;
        }

        int gradesOn(int day) {
            int act = actOn(day);
            int grades = 0;
            for (int r = 0; act != NONE && r < lengths[act]; r++) {
                if (beginsGrade(act, r)) {
                    grades++;
                }
            }
            return grades;
        }

        int gradeAt(int day, int i) {
            int act = actOn(day);
            int ahead = 0;
            for (int r = 0; act != NONE && r < lengths[act]; r++) {
                if (beginsGrade(act, r)) {
                    if (ahead == i) {
                        return letters[act * WIDTH + r];
                    }
                    ahead++;
                }
            }
            return NONE;
        }

        private boolean beginsGrade(int act, int r) {
            return r == 0 || letters[act * WIDTH + r] != letters[act * WIDTH + r - 1];
        }

        int brandOn(int day, int[] facts) {
            int act = actOn(day);
            boolean so = false;
            for (int r = 0; act != NONE && r < lengths[act]; r++) {
                int row = act * WIDTH + r;
                if (beginsGrade(act, r)) {
                    if (so) {
                        return letters[row - 1];
                    }
                    so = true;
                }
                so = so && holds(comparers[row], facts[kinds[row]], numbers[row]);
            }
            return so ? letters[act * WIDTH + lengths[act] - 1] : NONE;
        }

        private static boolean holds(int comparer, int value, int number) {
            if (comparer == '<') {
                return value < number;
            }
            return comparer == '>' ? value > number : value == number;
        }
    }

    /**
     * The landings, and how the quays work them. A quay's time is counted in fish: the fish u is worked in the
     * hour u / pace, so that a landing is worked as one run of such places from its start on.
     */
    private static final class Landings {
        final int[] boats;
        final int[] quays;
        final int[] hours;
        final int[] fish;
        final int[] sizes;
        final int[] order;
        final int[] starts;
        final int[] worked;
        final int[] before;
        final int[] crews;
        final int[] rates;
        final int[] reached;
        final int[] totals;
        int count;

        Landings() {
            boats = new int[MOST_LANDINGS];
            quays = new int[MOST_LANDINGS];
            hours = new int[MOST_LANDINGS];
            fish = new int[MOST_LANDINGS];
            sizes = new int[MOST_LANDINGS];
            order = new int[MOST_LANDINGS];
            starts = new int[MOST_LANDINGS];
            worked = new int[MOST_LANDINGS];
            before = new int[MOST_LANDINGS];
            crews = new int[] {1, 1, 1, 1};
            rates = new int[] {500, 500, 500, 500};
            reached = new int[QUAYS];
            totals = new int[QUAYS];
        }

        int add(int boat, int quay, int hour, int much, int size) {
            int number = count;
            boats[number] = boat;
            quays[number] = quay;
            hours[number] = hour;
            fish[number] = much;
            sizes[number] = size;
            int place = number;
            while (place > 0 && hours[order[place - 1]] > hour) {
                order[place] = order[place - 1];
                place--;
            }
            order[place] = number;
            count++;
            return number;
        }

        int waiting() {
            int waiting = 0;
            for (int n = 0; n < count; n++) {
                if (quays[n] == NO_QUAY) {
                    waiting++;
                }
            }
            return waiting;
        }

        /** Crews and rates are 1 at least from the first, so that it may divide. */
        int paceAt(int quay) {
            return crews[quay] * rates[quay];
        }

        void work(int stale) {
            for (int q = 0; q < QUAYS; q++) {
                reached[q] = 0;
                totals[q] = 0;
            }
            for (int p = 0; p < count; p++) {
                int n = order[p];
                if (quays[n] != NO_QUAY) {
                    workOne(n, quays[n], stale);
                }
            }
        }

        private void workOne(int n, int quay, int stale) {
            starts[n] = startOf(n, quay, reached[quay]);
            worked[n] = workedFrom(starts[n], n, quay, stale);
            before[n] = totals[quay];
            reached[quay] = starts[n] + worked[n];
            totals[quay] += worked[n];
        }

        private int startOf(int n, int quay, int from) {
            return Math.max(from, hours[n] * paceAt(quay));
        }

        private int workedFrom(int start, int n, int quay, int stale) {
            int open = (hours[n] + stale) * paceAt(quay) - start;
            return Math.max(0, Math.min(fish[n], open));
        }

        int spoiltOf(int n) {
            return quays[n] == NO_QUAY ? 0 : fish[n] - worked[n];
        }

        int lastHourOf(int n) {
            if (quays[n] == NO_QUAY || worked[n] == 0) {
                return NONE;
            }
            return (starts[n] + worked[n] - 1) / paceAt(quays[n]);
        }

        int spoiltAt(int quay) {
            int sum = 0;
            for (int n = 0; n < count; n++) {
                if (quays[n] == quay) {
                    sum += spoiltOf(n);
                }
            }
            return sum;
        }

        /** What would spoil at a quay if the waiting landings of a set (a bit for each slot) came to it too. */
        int spoiltWith(int quay, int set, int[] slots, int stale) {
            int from = 0;
            int sum = 0;
            for (int p = 0; p < count; p++) {
                int n = order[p];
                boolean joins = quays[n] == NO_QUAY && (set >> slots[n] & 1) == 1;
                if (joins || quays[n] == quay) {
                    int start = startOf(n, quay, from);
                    int done = workedFrom(start, n, quay, stale);
                    from = start + done;
                    sum += fish[n] - done;
                }
            }
            return sum;
        }

        int fishOf(int boat, int quay) {
            int sum = 0;
            for (int n = 0; n < count; n++) {
                if (boats[n] == boat && quays[n] == quay) {
                    sum += fish[n];
                }
            }
            return sum;
        }

        /** Measures a barrel of the cask's quay: the first one there is, or the next behind the last measured. */
        void measure(Cask cask, int barrel, int full) {
            int first = barrel * full;
            int behind = first + full;
            int pace = paceAt(cask.quay);
            cask.empty();
            for (int p = cask.place; p < count; p++) {
                int n = order[p];
                if (quays[n] == cask.quay) {
                    if (before[n] >= behind) {
                        break;
                    }
                    int to = Math.min(behind, before[n] + worked[n]);
                    if (Math.max(first, before[n]) < to) {
                        int hour = (starts[n] + to - 1 - before[n]) / pace;
                        cask.take(hour, hour - hours[n], sizes[n]);
                        cask.place = p;
                    }
                }
            }
            cask.compare();
        }
    }

    /** One barrel as it is measured; barrels of a quay are measured in their order from a start on. */
    private static final class Cask {
        int quay;
        int place;
        int done;
        int most;
        int least;
        int parts;
        boolean likeLast;
        private int lastDone;
        private int lastMost;
        private int lastLeast;

        void start(int atQuay) {
            quay = atQuay;
            place = 0;
            done = NONE;
        }

        void empty() {
            lastDone = done;
            lastMost = most;
            lastLeast = least;
            done = 0;
            most = 0;
            least = 9;
            parts = 0;
        }

        void take(int hour, int lay, int size) {
            done = hour;
            most = Math.max(most, lay);
            least = Math.min(least, size);
            parts++;
        }

        void compare() {
            likeLast = done == lastDone && most == lastMost && least == lastLeast;
        }
    }

    /** The tellings of salt. */
    private static final class Salts {
        final int[] quays;
        final int[] hours;
        final int[] lots;
        final int[] muches;
        int count;

        Salts() {
            quays = new int[MOST_SALTS];
            hours = new int[MOST_SALTS];
            lots = new int[MOST_SALTS];
            muches = new int[MOST_SALTS];
        }

        int add(int quay, int hour, int lot, int much) {
            quays[count] = quay;
            hours[count] = hour;
            lots[count] = lot;
            muches[count] = much;
            count++;
            return count;
        }

        private int find(int quay, int hour) {
            int found = NONE;
            for (int s = 0; s < count; s++) {
                boolean fits = quays[s] == quay && hours[s] <= hour;
                if (fits && (found == NONE || hours[s] >= hours[found])) {
                    found = s;
                }
            }
            return found;
        }

        int lotAt(int quay, int hour) {
            int found = find(quay, hour);
            return found == NONE ? FIRST_LOT : lots[found];
        }

        int muchAt(int quay, int hour) {
            int found = find(quay, hour);
            return found == NONE ? FIRST_SALT : muches[found];
        }
    }

    /** The barrels judged: a bit for each, so that a cause is the set of barrels that have it. */
    private static final class Judged {
        // The sets of three of thirty causes are 4060.
        private static final int MOST_SETS = 5000;

        final int[] having;
        final int[] able;
        final int[] chosen;
        int rejects;
        int count;
        int ables;

        Judged() {
            having = new int[CAUSES];
            able = new int[CAUSES];
            chosen = new int[MOST_CAUSES];
        }

        int add(int crew, int lot, int sixes, boolean isReject) {
            int bit = 1 << count;
            having[crew] |= bit;
            having[10 + lot] |= bit;
            having[20 + sixes] |= bit;
            if (isReject) {
                rejects |= bit;
            }
            count++;
            return count;
        }

        int clear() {
            int were = count;
            for (int c = 0; c < CAUSES; c++) {
                having[c] = 0;
            }
            rejects = 0;
            count = 0;
            return were;
        }

        boolean mayBe(int c) {
            return (having[c] & ~rejects) == 0 && Integer.bitCount(having[c]) >= 2;
        }

        int fewest() {
            for (int size = 0; size <= MOST_CAUSES; size++) {
                if (explaining(size, 0) > 0) {
                    return size;
                }
            }
            return NONE;
        }

        /** How many sets of so many causes do; the wanted one, if it is met, stays chosen and is the last counted. */
        int explaining(int size, int wanted) {
            listAble();
            boolean more = size <= ables;
            for (int j = 0; j < size; j++) {
                chosen[j] = j;
            }
            int met = 0;
            for (int step = 0; more && step < MOST_SETS; step++) {
                if (explainsAll(size)) {
                    met++;
                    if (met - 1 == wanted) {
                        return met;
                    }
                }
                more = advance(size);
            }
            return met;
        }

        int chosenCause(int k) {
            return able[chosen[k]];
        }

        private void listAble() {
            ables = 0;
            for (int c = 0; c < CAUSES; c++) {
                if (mayBe(c)) {
                    able[ables] = c;
                    ables++;
                }
            }
        }

        private boolean explainsAll(int size) {
            int left = rejects;
            for (int j = 0; j < size; j++) {
                left &= ~having[able[chosen[j]]];
            }
            return left == 0;
        }

        private boolean advance(int size) {
            for (int j = size - 1; j >= 0; j--) {
                if (chosen[j] < ables - size + j) {
                    chosen[j]++;
                    for (int k = j + 1; k < size; k++) {
                        chosen[k] = chosen[k - 1] + 1;
                    }
                    return true;
                }
            }
            return false;
        }
    }

    /** What the boats are engaged for. */
    private static final class Boats {
        final int[] quays;
        final int[] crans;
        final int[] prices;

        Boats() {
            quays = new int[BOATS];
            crans = new int[BOATS];
            prices = new int[BOATS];
            for (int b = 0; b < BOATS; b++) {
                quays[b] = NO_QUAY;
            }
        }

        void bind(int boat, int quay, int many, int each) {
            quays[boat] = quay;
            crans[boat] = many;
            prices[boat] = each;
        }

        int agreedAt(int boat, int quay, int cran) {
            return quays[boat] == quay ? crans[boat] * cran : 0;
        }
    }

    /** Prices of days, told on days: free ones (all of kind 0), or those of grades (by kinds). */
    private static final class Forecasts {
        final int[] kinds;
        final int[] days;
        final int[] values;
        final int[] tolds;
        int count;

        Forecasts() {
            kinds = new int[MOST_PRICES];
            days = new int[MOST_PRICES];
            values = new int[MOST_PRICES];
            tolds = new int[MOST_PRICES];
        }

        int add(int kind, int day, int value, int toldOn) {
            kinds[count] = kind;
            days[count] = day;
            values[count] = value;
            tolds[count] = toldOn;
            count++;
            return count;
        }

        int find(int kind, int day, int known, int without) {
            int found = NONE;
            for (int f = 0; f < count; f++) {
                boolean fits = kinds[f] == kind && tolds[f] <= known && days[f] <= day;
                if (fits && (found == NONE || days[f] >= days[found])) {
                    found = f;
                }
            }
            return found == NONE ? without : values[found];
        }
    }

    /** Where the waiting landings go so that the fewest fish spoil. */
    private static final class Spreading {
        private static final int SETS = 32;

        final int[] slots;
        final int[] numbers;
        final int[] spoilt;
        int count;
        int fewest;
        int code;

        Spreading() {
            slots = new int[MOST_LANDINGS];
            numbers = new int[MOST_WAITING];
            spoilt = new int[QUAYS * SETS];
        }

        void plan(Landings landings, int stale) {
            list(landings);
            // A quay's spoilt fish hang on its own set alone, so that each set is worked but once.
            for (int q = 0; q < QUAYS; q++) {
                for (int set = 0; set < 1 << count; set++) {
                    spoilt[q * SETS + set] = landings.spoiltWith(q, set, slots, stale);
                }
            }
            code = 0;
            fewest = spoiltBy(0);
            for (int c = 1; c < 1 << 2 * count; c++) {
                int sum = spoiltBy(c);
                if (sum < fewest) {
                    fewest = sum;
                    code = c;
                }
            }
        }

        int quayOf(int i) {
            return digit(code, i);
        }

        private void list(Landings landings) {
            count = 0;
            for (int n = 0; n < landings.count; n++) {
                if (landings.quays[n] == NO_QUAY && count < MOST_WAITING) {
                    slots[n] = count;
                    numbers[count] = n;
                    count++;
                }
            }
        }

        /** The first landing has the highest digit, so that rising codes are rows in order. */
        private int digit(int of, int i) {
            return of >> 2 * (count - 1 - i) & 3;
        }

        private int spoiltBy(int of) {
            int sum = 0;
            for (int q = 0; q < QUAYS; q++) {
                int set = 0;
                for (int i = 0; i < count; i++) {
                    if (digit(of, i) == q) {
                        set |= 1 << i;
                    }
                }
                sum += spoilt[q * SETS + set];
            }
            return sum;
        }
    }

    /** The ships, and the best that those from one on can make of so many barrels. */
    private static final class Fleet {
        private static final int SIDE = MOST_BORNE + 1, TABLE = SIDE * SIDE;

        final int[] days;
        final int[] bears;
        final int[] firstPrices;
        final int[] secondPrices;
        final int[] best;

        Fleet() {
            days = new int[SHIPS];
            bears = new int[SHIPS];
            firstPrices = new int[SHIPS];
            secondPrices = new int[SHIPS];
            // One table more than ships: behind the last ship nothing is worth anything.
            best = new int[(SHIPS + 1) * TABLE];
        }

        int worth(int from, int first, int second) {
            return best[from * TABLE + first * SIDE + second];
        }

        void plan(int first, int second) {
            for (int s = SHIPS - 1; s >= 0; s--) {
                System.arraycopy(best, (s + 1) * TABLE, best, s * TABLE, TABLE);
                for (int barrel = 0; barrel < bears[s]; barrel++) {
                    bearOneMore(s, first, second);
                }
            }
        }

        /** Falling numbers, so that the entries read are still those of a barrel less. */
        private void bearOneMore(int s, int first, int second) {
            for (int x = first; x >= 0; x--) {
                for (int y = second; y >= 0; y--) {
                    int most = worth(s, x, y);
                    if (x > 0) {
                        most = Math.max(most, worth(s, x - 1, y) + firstPrices[s]);
                    }
                    if (y > 0) {
                        most = Math.max(most, worth(s, x, y - 1) + secondPrices[s]);
                    }
                    best[s * TABLE + x * SIDE + y] = most;
                }
            }
        }

        int borneBy(int wanted, int first, int second) {
            int x = first;
            int y = second;
            int borne = 0;
            for (int s = 0; s <= wanted; s++) {
                borne = leastRow(s, x, y);
                x -= borne / 100;
                y -= borne % 100;
            }
            return borne;
        }

        private int leastRow(int s, int x, int y) {
            int due = worth(s, x, y);
            for (int a = 0; a <= Math.min(bears[s], x); a++) {
                for (int b = 0; b <= Math.min(bears[s] - a, y); b++) {
                    int sum = a * firstPrices[s] + b * secondPrices[s] + worth(s + 1, x - a, y - b);
                    if (sum == due) {
                        return 100 * a + b;
                    }
                }
            }
            return 0;
        }
    }
}

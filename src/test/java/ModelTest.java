import java.math.BigInteger;
import java.util.ArrayList;
import java.util.List;

/** Long runs of calls, each answer held against a slow model that goes hour by hour and fish by fish. */
public final class ModelTest {
    private static final int NONE = -6, UNKNOWN = -1, OUTSIDE = -2, FULL = -4, NO = -5;
    private static long seed = 20261119;

    private static int upTo(int n) {
        seed = seed * 6364136223846793005L + 1442695040888963407L;
        return (int) ((seed >>> 33) % n);
    }

    private static boolean in(int v, int a, int b) {
        return v >= a && v <= b;
    }

    /** The document once more, in its slowest form. */
    private static final class Model {
        String signs = "";
        final List<Object[]> acts = new ArrayList<>();
        final int[] rules = {24, 800, 40, 10, 1000, 5, 4};
        final int[] lows = {1, 100, 1, 0, 500, 0, 0};
        final int[] highs = {72, 1500, 100, 50, 1500, 100, 100};
        final int[][] sets = {{1, 1, 1, 1}, {500, 500, 500, 500}};
        final List<int[]> landings = new ArrayList<>();
        final List<int[]> salts = new ArrayList<>();
        final List<int[]> judged = new ArrayList<>();
        final int[][] engaged = new int[10][];
        final List<int[]> frees = new ArrayList<>();
        final List<int[]> prices = new ArrayList<>();
        final int[][] ships = new int[4][2];

        static boolean isText(String s) {
            if (!s.matches("[A-F]:[htszq][<>=][0-9]{1,4}(,[htszq][<>=][0-9]{1,4})*(;[A-F]:[htszq][<>=][0-9]{1,4}(,[htszq][<>=][0-9]{1,4})*)*")) {
                return false;
            }
            String letters = s.replaceAll("[^A-F]", "");
            return letters.chars().distinct().count() == letters.length();
        }

        static boolean canGoOn(String s) {
            String[] ends = {"", "1", "<1", "h<1", ":h<1", "A:h<1", "B:h<1", "C:h<1", "D:h<1", "E:h<1", "F:h<1"};
            for (String end : ends) {
                if (isText(s + end)) {
                    return true;
                }
            }
            return false;
        }

        int fault() {
            for (int p = 0; p < signs.length(); p++) {
                if (!canGoOn(signs.substring(0, p + 1))) {
                    return p;
                }
            }
            return isText(signs) ? NONE : signs.length();
        }

        int act(int day) {
            if (!in(day, 0, 400)) {
                return OUTSIDE;
            }
            if (acts.size() >= 8) {
                return FULL;
            }
            if (fault() != NONE) {
                return NO;
            }
            acts.add(new Object[] {day, signs});
            signs = "";
            return acts.size();
        }

        String actOn(int day) {
            for (int d = day; d >= 0; d--) {
                for (int a = acts.size() - 1; a >= 0; a--) {
                    if ((Integer) acts.get(a)[0] == d) {
                        return (String) acts.get(a)[1];
                    }
                }
            }
            return "";
        }

        int grade(int day, int i) {
            if (!in(day, 0, 400)) {
                return OUTSIDE;
            }
            String letters = actOn(day).replaceAll("[^A-F]", "");
            if (i == -1) {
                return letters.length();
            }
            return in(i, 0, letters.length() - 1) ? letters.charAt(i) - 'A' : NONE;
        }

        int brandOf(int quay, int[] barrel, int day) {
            String act = actOn(day);
            if (act.isEmpty()) {
                return NONE;
            }
            for (String grade : act.split(";")) {
                boolean all = true;
                for (String rule : grade.substring(2).split(",")) {
                    int[] facts = {barrel[1], barrel[2], barrel[3], barrel[5], quay};
                    int fact = facts["htszq".indexOf(rule.charAt(0))];
                    int number = Integer.parseInt(rule.substring(2));
                    char c = rule.charAt(1);
                    all &= c == '<' ? fact < number : c == '>' ? fact > number : fact == number;
                }
                if (all) {
                    return grade.charAt(0) - 'A';
                }
            }
            return NONE;
        }

        /** Of a quay, with the landings at the quays told: rows of landing, hour, fish, as they are worked. */
        List<int[]> worked(int quay, int[] at) {
            List<Integer> order = new ArrayList<>();
            int end = 0;
            int begin = 5000;
            for (int hour = 0; hour <= 2000; hour++) {
                for (int n = 0; n < landings.size(); n++) {
                    if (landings.get(n)[2] == hour && at[n] == quay) {
                        order.add(n);
                        begin = Math.min(begin, hour);
                        end = hour + 80;
                    }
                }
            }
            int[] left = new int[landings.size()];
            for (int n : order) {
                left[n] = landings.get(n)[3];
            }
            List<int[]> rows = new ArrayList<>();
            for (int hour = begin; hour < end; hour++) {
                int hands = sets[0][quay] * sets[1][quay];
                for (int n : order) {
                    int came = landings.get(n)[2];
                    if (came > hour) {
                        break;
                    }
                    if (hour >= came + rules[0]) {
                        continue;
                    }
                    int part = Math.min(hands, left[n]);
                    if (part > 0) {
                        rows.add(new int[] {n, hour, part});
                        left[n] -= part;
                        hands -= part;
                    }
                }
            }
            return rows;
        }

        int[] at() {
            int[] at = new int[landings.size()];
            for (int n = 0; n < at.length; n++) {
                at[n] = landings.get(n)[1];
            }
            return at;
        }

        List<int[]> barrels(int quay) {
            List<int[]> barrels = new ArrayList<>();
            List<Integer> in = new ArrayList<>();
            int[] now = {0, 0, 0, 0, 0, 10, 0};
            int fish = 0;
            for (int[] row : worked(quay, at())) {
                for (int f = 0; f < row[2]; f++) {
                    now[0] = row[1];
                    now[1] = Math.max(now[1], row[1] - landings.get(row[0])[2]);
                    now[5] = Math.min(now[5], landings.get(row[0])[4]);
                    if (!in.contains(row[0])) {
                        in.add(row[0]);
                    }
                    fish++;
                    if (fish == rules[1]) {
                        int[] salt = saltOf(quay, row[1]);
                        now[2] = rules[1] / rules[2];
                        now[3] = salt[3];
                        now[4] = salt[2];
                        now[6] = in.size();
                        barrels.add(now);
                        now = new int[] {0, 0, 0, 0, 0, 10, 0};
                        in.clear();
                        fish = 0;
                    }
                }
            }
            return barrels;
        }

        int[] saltOf(int quay, int hour) {
            for (int h = hour; h >= 0; h--) {
                for (int s = salts.size() - 1; s >= 0; s--) {
                    if (salts.get(s)[0] == quay && salts.get(s)[1] == h) {
                        return salts.get(s);
                    }
                }
            }
            return new int[] {quay, 0, 0, 50};
        }

        int spoilt(int quay, int[] at) {
            int sum = 0;
            for (int n = 0; n < at.length; n++) {
                sum += at[n] == quay ? landings.get(n)[3] : 0;
            }
            for (int[] row : worked(quay, at)) {
                sum -= row[2];
            }
            return sum;
        }

        int brand(int quay, int barrel, int day) {
            if (!in(quay, 0, 3) || !in(barrel, 0, barrels(quay).size() - 1)) {
                return UNKNOWN;
            }
            return in(day, 0, 400) ? brandOf(quay, barrels(quay).get(barrel), day) : OUTSIDE;
        }

        int waiting() {
            int sum = 0;
            for (int[] l : landings) {
                sum += l[1] == -1 ? 1 : 0;
            }
            return sum;
        }

        int land(int boat, int quay, int hour, int fish, int size) {
            if (!in(boat, 0, 9) || !in(quay, -1, 3)) {
                return UNKNOWN;
            }
            if (!in(hour, 0, 2000) || !in(fish, 1, 20000) || !in(size, 1, 9)) {
                return OUTSIDE;
            }
            if (landings.size() == 30) {
                return FULL;
            }
            if (quay == -1 && waiting() == 5) {
                return NO;
            }
            landings.add(new int[] {boat, quay, hour, fish, size});
            return landings.size() - 1;
        }

        int lead(int n, int quay) {
            if (!in(n, 0, landings.size() - 1) || !in(quay, -1, 3)) {
                return UNKNOWN;
            }
            int was = landings.get(n)[1];
            int others = waiting() - (was == -1 ? 1 : 0);
            if (quay == -1 && others == 5) {
                return NO;
            }
            landings.get(n)[1] = quay;
            return was;
        }

        int landing(int i, int what) {
            if (!in(i, 0, landings.size() - 1)) {
                return UNKNOWN;
            }
            if (!in(what, 0, 6)) {
                return OUTSIDE;
            }
            int[] l = landings.get(i);
            if (what < 5) {
                return l[what];
            }
            int left = l[3];
            int last = NONE;
            if (l[1] == -1) {
                return what == 5 ? 0 : NONE;
            }
            for (int[] row : worked(l[1], at())) {
                if (row[0] == i) {
                    left -= row[2];
                    last = row[1];
                }
            }
            return what == 5 ? left : last;
        }

        int salt(int quay, int hour, int lot, int much) {
            if (!in(quay, 0, 3)) {
                return UNKNOWN;
            }
            if (!in(hour, 0, 2000) || !in(lot, 0, 9) || !in(much, 1, 100)) {
                return OUTSIDE;
            }
            if (salts.size() == 12) {
                return FULL;
            }
            salts.add(new int[] {quay, hour, lot, much});
            return salts.size();
        }

        int barrel(int quay, int i, int what) {
            if (!in(quay, 0, 3) || !in(i, -1, barrels(quay).size() - 1)) {
                return UNKNOWN;
            }
            if (!in(what, 0, 6)) {
                return OUTSIDE;
            }
            return i == -1 ? barrels(quay).size() : barrels(quay).get(i)[what];
        }

        int filled(int quay, int grade, int hour, int what) {
            if (!in(quay, 0, 3) || !in(grade, 0, 5)) {
                return UNKNOWN;
            }
            if (!in(hour, 0, 2000) || !in(what, 0, 1)) {
                return OUTSIDE;
            }
            int left = 0;
            for (int[] b : barrels(quay)) {
                if (hour - b[0] >= 240 && brandOf(quay, b, b[0] / 24) == grade) {
                    left += rules[1] - rules[1] * rules[3] / 100;
                }
            }
            return what == 0 ? left / rules[1] : left % rules[1];
        }

        static int open(int n, int d, int r) {
            if (!in(n, 1, 30) || !in(d, 1, n) || !in(r, 0, 99)) {
                return OUTSIDE;
            }
            BigInteger above = BigInteger.ONE;
            BigInteger below = BigInteger.ONE;
            int opened = 0;
            while (above.multiply(BigInteger.valueOf(100)).compareTo(below.multiply(BigInteger.valueOf(r))) > 0) {
                above = above.multiply(BigInteger.valueOf(Math.max(0, n - d - opened)));
                below = below.multiply(BigInteger.valueOf(n - opened));
                opened++;
            }
            return opened;
        }

        boolean has(int[] barrel, int c) {
            return barrel[c / 10] == c % 10;
        }

        int cause(int c) {
            if (!in(c, 0, 29)) {
                return OUTSIDE;
            }
            int rejects = 0;
            for (int[] b : judged) {
                if (has(b, c)) {
                    if (b[3] == 0) {
                        return 0;
                    }
                    rejects++;
                }
            }
            return rejects >= 2 ? 1 : 0;
        }

        void grow(List<int[]> sets, int[] set, int size) {
            if (set.length == size) {
                for (int[] b : judged) {
                    boolean some = b[3] == 0;
                    for (int c : set) {
                        some |= has(b, c);
                    }
                    if (!some) {
                        return;
                    }
                }
                sets.add(set);
                return;
            }
            for (int c = set.length == 0 ? 0 : set[set.length - 1] + 1; c < 30; c++) {
                if (cause(c) == 1) {
                    int[] more = java.util.Arrays.copyOf(set, set.length + 1);
                    more[set.length] = c;
                    grow(sets, more, size);
                }
            }
        }

        List<int[]> rivals() {
            List<int[]> sets = new ArrayList<>();
            for (int size = 0; size <= 3 && sets.isEmpty(); size++) {
                grow(sets, new int[0], size);
            }
            return sets;
        }

        int explained() {
            List<int[]> sets = rivals();
            return sets.isEmpty() ? NONE : sets.get(0).length;
        }

        int rival(int i, int k) {
            List<int[]> sets = rivals();
            if (i == -1) {
                return sets.size();
            }
            return in(i, 0, sets.size() - 1) && in(k, 0, sets.get(i).length - 1) ? sets.get(i)[k] : NONE;
        }

        static int find(List<int[]> tellings, int kind, int day, int known, int without) {
            for (int d = day; d >= 0; d--) {
                for (int t = tellings.size() - 1; t >= 0; t--) {
                    int[] row = tellings.get(t);
                    if (row[0] == kind && row[1] == d && row[3] <= known) {
                        return row[2];
                    }
                }
            }
            return without;
        }

        int tell(List<int[]> tellings, int kind, int day, int price, int least, int told) {
            if (!in(day, 0, 400) || !in(price, least, 1000) || !in(told, 0, 400)) {
                return OUTSIDE;
            }
            if (tellings.size() == 60) {
                return FULL;
            }
            tellings.add(new int[] {kind, day, price, told});
            return tellings.size();
        }

        int cost(int boat, int quay, int known, int what) {
            if (!in(boat, 0, 9) || !in(quay, 0, 3)) {
                return UNKNOWN;
            }
            if (!in(known, 0, 400) || !in(what, 0, 2)) {
                return OUTSIDE;
            }
            int[] e = engaged[boat];
            int left = e != null && e[0] == quay ? e[1] * rules[4] : 0;
            int cost = 0;
            int all = 0;
            int fish = 0;
            for (int hour = 0; hour <= 2000; hour++) {
                for (int[] l : landings) {
                    if (l[2] == hour && l[0] == boat && l[1] == quay) {
                        int free = find(frees, 0, hour / 24, known, 10);
                        int part = Math.min(left, l[3]);
                        left -= part;
                        cost += (e == null ? 0 : part * e[2] / rules[4]) + (l[3] - part) * free / rules[4];
                        all += l[3] * free / rules[4];
                        fish += l[3];
                    }
                }
            }
            return what == 0 ? cost : what == 1 ? all - cost : fish;
        }

        int account(int quay, int known, int what) {
            if (!in(quay, 0, 3)) {
                return UNKNOWN;
            }
            if (!in(known, 0, 400) || !in(what, 0, 7)) {
                return OUTSIDE;
            }
            int costs = 0;
            for (int b = 0; b < 10; b++) {
                costs += cost(b, quay, known, 0);
            }
            List<int[]> barrels = barrels(quay);
            int branded = 0;
            for (int[] b : barrels) {
                branded += brandOf(quay, b, b[0] / 24) == NONE ? 0 : 1;
            }
            int fish = 0;
            for (int[] row : worked(quay, at())) {
                fish += row[2];
            }
            int wages = rules[5] * barrels.size();
            int bounty = rules[6] * branded;
            int[] all = {costs, wages, bounty, barrels.size(), branded, spoilt(quay, at()), fish % rules[1], costs + wages - bounty};
            return all[what];
        }

        /** Rows of quays in order, each tried whole. */
        int[] spreading() {
            List<Integer> who = new ArrayList<>();
            int[] at = at();
            for (int n = 0; n < at.length; n++) {
                if (at[n] == -1) {
                    who.add(n);
                }
            }
            int[] best = null;
            int ways = 1;
            for (int i = 0; i < who.size(); i++) {
                ways *= 4;
            }
            for (int way = 0; way < ways; way++) {
                int rest = way;
                int[] row = new int[who.size() + 1];
                for (int i = who.size() - 1; i >= 0; i--) {
                    at[who.get(i)] = rest % 4;
                    row[i + 1] = rest % 4;
                    rest /= 4;
                }
                for (int q = 0; q < 4; q++) {
                    row[0] += spoilt(q, at);
                }
                if (best == null || row[0] < best[0]) {
                    best = row;
                }
            }
            return best;
        }

        int spread(int i) {
            return in(i, -1, waiting() - 1) ? spreading()[i + 1] : NONE;
        }

        int settle() {
            int[] row = spreading();
            int next = 1;
            for (int[] l : landings) {
                if (l[1] == -1) {
                    l[1] = row[next++];
                }
            }
            return next - 1;
        }

        /** The best rows from a ship on: what they come to, then what each ship bears; rows tried in order. */
        int[] loading(int s, int x, int y, int known, int[][][] kept) {
            if (s == 4) {
                return new int[5];
            }
            int at = s * 1000 + x * 30 + y;
            if (kept[0][at] != null) {
                return kept[0][at];
            }
            int[] best = null;
            for (int a = 0; a <= Math.min(x, ships[s][1]); a++) {
                for (int b = 0; b <= Math.min(y, ships[s][1] - a); b++) {
                    int[] row = loading(s + 1, x - a, y - b, known, kept).clone();
                    row[0] += a * find(prices, 0, ships[s][0], known, 0) + b * find(prices, 1, ships[s][0], known, 0);
                    row[s + 1] = 100 * a + b;
                    if (best == null || row[0] > best[0]) {
                        best = row;
                    }
                }
            }
            kept[0][at] = best;
            return best;
        }

        int load(int first, int second, int known, int i) {
            if (!in(first, 0, 20) || !in(second, 0, 20) || !in(known, 0, 400)) {
                return OUTSIDE;
            }
            return in(i, -1, 3) ? loading(0, first, second, known, new int[1][4000][])[i + 1] : NONE;
        }

        int told(int what) {
            int spoilt = 0;
            int barrels = 0;
            for (int q = 0; q < 4; q++) {
                spoilt += spoilt(q, at());
                barrels += barrels(q).size();
            }
            int[] all = {signs.length(), acts.size(), landings.size(), waiting(), salts.size(), judged.size(),
                frees.size(), prices.size(), spoilt, barrels};
            return in(what, 0, 9) ? all[what] : OUTSIDE;
        }
    }

    private static final String[] TEXTS = {"A:h<3;B:z>4,s=50", "F:t=20,h<6;A:q=1", "C:s>40,s<90", "B:h=0;C:h=1;D:h=2;E:h>2",
        "A:h<1;B:h<1;C:h<1;D:h<1;E:h<1;F:h<1;", "A:q<2,z=5;A:h<2", "D:h<99999", "E:t>8;F:t<9,z<5", "A:h<2,", "B:z=3;", "G", "A:x"};

    /** Mostly inside, now and then just outside. */
    private static int about(int low, int high) {
        int way = upTo(24);
        return way == 0 ? low - 1 : way == 1 ? high + 1 : low + upTo(high - low + 1);
    }

    private static int hour(int widest) {
        int h = about(0, widest);
        return h == widest + 1 && widest < 2000 ? 2001 : h;
    }

    private static int day() {
        return upTo(3) == 0 ? about(0, 400) : upTo(6);
    }

    private static int[] step(QuayBrands x, Model m, int kind, int widest) {
        int a = about(0, 3);
        int b;
        int c;
        int d;
        switch (kind) {
            case 0: b = "ABCDEFhtszq<>=:;,0123456789G!".charAt(upTo(29));
                return new int[] {x.say(b), m.signs.length() == 60 ? FULL : (m.signs += (char) b).length()};
            case 1: b = m.signs.length(); m.signs = ""; return new int[] {x.wipe(), b};
            case 2: return new int[] {x.fault(), m.fault()};
            case 3: b = day(); return new int[] {x.act(b), m.act(b)};
            case 4: b = about(0, Math.max(1, x.barrel(upTo(4), -1, 0))); c = day(); return new int[] {x.brand(a, b, c), m.brand(a, b, c)};
            case 5: b = day(); c = about(-1, 6); return new int[] {x.grade(b, c), m.grade(b, c)};
            case 6: b = upTo(2); c = b == 0 ? 1 + upTo(9) : upTo(3) == 0 ? 1 + upTo(30) : 1 + upTo(2000); a = upTo(4); d = m.sets[b][a];
                m.sets[b][a] = c; return new int[] {x.set(a, b, c), d};
            case 7: b = about(0, 6); if (!in(b, 0, 6)) { return new int[] {x.rule(b, 1), OUTSIDE}; }
                c = about(m.lows[b], m.highs[b]); d = m.rules[b]; if (!in(c, m.lows[b], m.highs[b])) { return new int[] {x.rule(b, c), OUTSIDE}; }
                m.rules[b] = c; return new int[] {x.rule(b, c), d};
            case 8: b = upTo(3) == 0 ? -1 : about(0, 3); c = hour(widest); d = upTo(9) == 0 ? about(1, 20000) : about(1, 3000);
                int e = about(0, 9); int f = about(1, 9);
                return new int[] {x.land(e, b, c, d, f), m.land(e, b, c, d, f)};
            case 9: b = upTo(3) == 0 ? -1 : about(0, 3); c = about(0, Math.max(1, m.landings.size() - 1)); return new int[] {x.lead(c, b), m.lead(c, b)};
            case 10: b = about(0, Math.max(1, m.landings.size() - 1)); c = about(0, 6); return new int[] {x.landing(b, c), m.landing(b, c)};
            case 11: b = hour(widest); c = about(0, 9); d = about(1, 100); return new int[] {x.salt(a, b, c, d), m.salt(a, b, c, d)};
            case 12: b = about(-1, Math.max(1, x.barrel(a, -1, 0))); c = about(0, 6); return new int[] {x.barrel(a, b, c), m.barrel(a, b, c)};
            case 13: b = about(0, 5); c = upTo(2) == 0 ? 240 + upTo(widest + 1) : 2000; d = about(0, 1); return new int[] {x.filled(a, b, c, d), m.filled(a, b, c, d)};
            case 14: b = about(1, 30); c = about(1, Math.max(1, b)); d = about(0, 99); return new int[] {x.open(b, c, d), Model.open(b, c, d)};
            case 15: b = upTo(widest % 7 + 2); c = upTo(10); d = upTo(3); boolean bad = upTo(8) != 0;
                if (m.judged.size() < 24) { m.judged.add(new int[] {b, c, d, bad ? 1 : 0}); return new int[] {x.judge(b, c, d, bad), m.judged.size()}; }
                return new int[] {x.judge(b, c, d, bad), FULL};
            case 16: if (upTo(4) != 0) { return new int[] {0, 0}; } b = m.judged.size(); m.judged.clear(); return new int[] {x.absolve(), b};
            case 17: b = about(0, 29); return new int[] {x.cause(b), m.cause(b)};
            case 18: return new int[] {x.explained(), m.explained()};
            case 19: b = upTo(2) == 0 ? -1 : about(0, 6); c = about(0, 2); return new int[] {x.rival(b, c), m.rival(b, c)};
            case 20: b = upTo(10); c = upTo(6) - 1; c = Math.min(c, 3); d = upTo(12); m.engaged[b] = new int[] {c, d, 1 + upTo(40)};
                return new int[] {x.engage(b, c, d, m.engaged[b][2]), 1};
            case 21: b = day(); c = about(1, 60); d = day(); return new int[] {x.free(b, c, d), m.tell(m.frees, 0, b, c, 1, d)};
            case 22: b = upTo(12); c = upTo(12); return new int[] {x.freeOn(b, c), Model.find(m.frees, 0, b, c, 10)};
            case 23: b = about(0, 9); c = day(); d = about(0, 2); return new int[] {x.cost(b, a, c, d), m.cost(b, a, c, d)};
            case 24: b = day(); c = about(0, 7); return new int[] {x.account(a, b, c), m.account(a, b, c)};
            case 25: if (m.waiting() > 3 && upTo(4) != 0) { return new int[] {0, 0}; } b = about(-1, 5); return new int[] {x.spread(b), m.spread(b)};
            case 26: if (upTo(3) != 0) { return new int[] {0, 0}; } return new int[] {x.settle(), m.settle()};
            case 27: a = upTo(4); b = upTo(8); c = upTo(upTo(5) == 0 ? 21 : 7); m.ships[a] = new int[] {b, c}; return new int[] {x.ship(a, b, c), 1};
            case 28: b = upTo(2); c = upTo(8); d = upTo(4) == 0 ? about(0, 1000) : upTo(5); e = day(); return new int[] {x.price(b, c, d, e), m.tell(m.prices, b, c, d, 0, e)};
            case 29: b = upTo(2); c = upTo(12); d = upTo(12); return new int[] {x.priceOn(b, c, d), Model.find(m.prices, b, c, d, 0)};
            case 30: b = about(0, 20); c = about(0, 20); d = day(); e = about(-1, 3); return new int[] {x.load(b, c, d, e), m.load(b, c, d, e)};
            case 31: b = about(0, 9); return new int[] {x.told(b), m.told(b)};
            default: String text = TEXTS[upTo(TEXTS.length)]; m.signs = text; x.wipe();
                for (int i = 0; i < text.length(); i++) { x.say(text.charAt(i)); }
                return new int[] {x.fault(), m.fault()};
        }
    }

    public static void main(String[] args) {
        int[] widths = {10, 40, 120, 2000};
        int wrong = 0;
        int looked = 0;
        for (int run = 0; run < 1000; run++) {
            QuayBrands x = new QuayBrands();
            Model m = new Model();
            int calls = 0;
            // An object is used for 512 calls at most; a step makes two, or says a text of 35 signs.
            for (int call = 0; calls < 470 && wrong < 20; call++) {
                int kind = upTo(35);
                calls += kind > 31 ? 37 : 2;
                int[] pair = step(x, m, kind, widths[run % 4]);
                looked++;
                if (pair[0] != pair[1]) {
                    wrong++;
                    System.out.println("run " + run + ", call " + call + " of kind " + kind + " answered " + pair[0] + ", the model " + pair[1]);
                }
            }
        }
        System.out.println(looked + " answers held against the model, " + wrong + " not alike");
        if (wrong != 0) {
            System.exit(1);
        }
    }
}

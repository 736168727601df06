/** The document's section 1, and promises 1 to 7: each sentence that names an edge, on both its sides. */
public final class ActsEdgesTest {
    private static final int NONE = Checks.NONE, OUTSIDE = Checks.OUTSIDE, FULL = Checks.FULL, NO = Checks.NO;
    private static final String DIGITS = "0123456789";
    private static final String FIVE_GRADES = "A:h<1;B:h<1;C:h<1;D:h<1;E:h<1";
    private static final String SIX_GRADES = "A:h<1;B:h<1;C:h<1;D:h<1;E:h<1;F:h<1";

    private ActsEdgesTest() {
    }

    private static void due(String sentence, int got, int want) {
        Checks.due(sentence, got, want);
    }

    private static int faultOf(String text) {
        return Checks.saying(text).fault();
    }

    /** "An object is used for at most 512 calls after it has been made": the 512th is still answered. */
    private static void lastOfTheCalls() {
        QuayBrands x = new QuayBrands();
        for (int call = 0; call < 60; call++) {
            x.say(65);
        }
        for (int call = 60; call < 511; call++) {
            due("call " + call, x.say(65), FULL);
        }
        due("the 512th call", x.wipe(), 60);
    }

    /** "THE FAULT: the first place at which no sign could make a text go on": every sign behind every kind of place. */
    private static void everySignAtEachPlace() {
        String[][] rows = {{"", "ABCDEF"}, {"A", ":"}, {"F", ":"}, {"A:", "htszq"}, {"F:", "htszq"}, {"A:h", "<>="}, {"A:t", "<>="},
            {"A:s", "<>="}, {"A:z", "<>="}, {"A:q", "<>="}, {"A:h<", DIGITS}, {"A:h>", DIGITS}, {"A:h=", DIGITS},
            {"A:h<0", DIGITS + ",;"}, {"A:h<99", DIGITS + ",;"}, {"A:h<000", DIGITS + ",;"}, {"A:h<9999", ",;"}, {"A:h<0000", ",;"},
            {"A:h<1,", "htszq"}, {"A:h<1234,", "htszq"}, {"A:h<1,h", "<>="}, {"A:h<1,h<", DIGITS}, {"A:h<1,h<1", DIGITS + ",;"},
            {"A:h<1;", "BCDEF"}, {"F:h<1;A:t>2;", "BCDE"}, {"A:h<1;B", ":"}, {"A:h<1;B:", "htszq"}, {"A:h<1;B:t<5555", ",;"},
            {FIVE_GRADES, DIGITS + ",;"}, {FIVE_GRADES + ";", "F"}, {FIVE_GRADES + ";F", ":"}, {SIX_GRADES, DIGITS + ","},
            {SIX_GRADES + "234", ","}, {SIX_GRADES + ",", "htszq"}, {SIX_GRADES + ",z=1", DIGITS + ","}};
        for (String[] row : rows) {
            for (char sign = 33; sign <= 126; sign++) {
                String text = row[0] + sign;
                boolean goesOn = row[1].indexOf(sign) >= 0;
                boolean isWhole = goesOn && DIGITS.indexOf(sign) >= 0;
                int open = goesOn ? text.length() : row[0].length();
                due("THE FAULT of " + text, faultOf(text), isWhole ? NONE : open);
            }
        }
    }

    /** "the first place": what stands behind it is no matter, and "as it stands": it goes when its sign goes. */
    private static void firstFault() {
        due("the first of two", faultOf("A:hh<1;;"), 3);
        due("ahead of a whole text", faultOf("xA:h<1"), 0);
        due("in the sixtieth sign", faultOf("A:h<1" + ",t>2".repeat(13) + "99x"), 59);
        due("a fifth digit as the sixtieth sign", faultOf("A:h<1" + ",t>2".repeat(13) + "999"), NONE);
        due("behind the last of sixty signs", faultOf("A:h<1" + ",t>2".repeat(13) + ",t>"), 60);
        QuayBrands x = new QuayBrands();
        due("without signs behind the last is 0", x.fault(), 0);
        Checks.sayAll(x, "B:q>3");
        due("whole", x.fault(), NONE);
        due("asked again", x.fault(), NONE);
        x.say(';');
        due("behind the last sign: their number", x.fault(), 6);
        x.say('B');
        due("no letter begins two GRADES", x.fault(), 6);
        x.wipe();
        due("wiped", x.fault(), 0);
        Checks.sayAll(x, "B:q>3");
        due("the same letter in a new text", x.fault(), NONE);
        x.act(0);
        Checks.sayAll(x, "B:q>3");
        due("the same letter in a new act", x.fault(), NONE);
    }

    /** "A sign more: how many"; "ACTS are texts of up to 60 signs". */
    private static void sixtySigns() {
        String[] texts = {"A:h<1" + ",t>2".repeat(13) + "999", SIX_GRADES + ",h<1".repeat(5) + "345,", "F:q=3"};
        for (String text : texts) {
            QuayBrands x = new QuayBrands();
            for (int i = 0; i < text.length(); i++) {
                due("how many signs", x.say(text.charAt(i)), i + 1);
                due("told(0)", x.told(0), i + 1);
            }
        }
        QuayBrands x = Checks.saying("A:h<1" + ",t>2".repeat(13) + "999");
        due("sixty", x.told(0), 60);
        due("a 61st", x.say(','), FULL);
        due("no fault for it", x.fault(), NONE);
        due("an act of sixty signs", x.act(400), 1);
        due("they are empty then", x.told(0), 0);
        due("its one grade", x.grade(400, -1), 1);
        due("its grade", x.grade(400, 0), 0);
        x.land(0, 0, 0, 800, 1);
        due("all fourteen rules are read", x.brand(0, 0, 400), NONE);
        QuayBrands y = Checks.acting("A:h<2" + ",t>2".repeat(13) + "0", 0);
        y.land(0, 0, 0, 800, 1);
        due("the last rule of many: t>20", y.brand(0, 0, 0), NONE);
        y.rule(2, 38);
        due("the last rule of many: 21 tiers", y.brand(0, 0, 0), 0);
        due("room again", y.say('A'), 1);
    }

    /** "Signs go: how many there were": 0, 1 and 60 of them. */
    private static void wiping() {
        QuayBrands x = new QuayBrands();
        due("wipe of none", x.wipe(), 0);
        x.say(33);
        due("wipe of one", x.wipe(), 1);
        Checks.sayAll(x, "~".repeat(60));
        due("wipe of sixty", x.wipe(), 60);
        due("wipe of none again", x.wipe(), 0);
        due("the sixty have gone", x.told(0), 0);
        due("the first again", x.say(126), 1);
        due("the acts stay", Checks.acting("A:h<1", 0).wipe(), 0);
        QuayBrands y = Checks.acting("A:h<1", 0);
        y.wipe();
        due("the acts stay", y.told(1), 1);
    }

    /** "how many (8 at most)": the eighth is taken and read, the ninth is not. */
    private static void eightActs() {
        QuayBrands x = new QuayBrands();
        for (int i = 0; i < 8; i++) {
            Checks.sayAll(x, "ABCDEF".charAt(i % 6) + ":h<9");
            due("act " + i, x.act(10 * i), i + 1);
        }
        Checks.sayAll(x, "C:h<9");
        due("a ninth", x.act(70), FULL);
        due("its signs stay", x.told(0), 5);
        due("the eighth is in force", x.grade(70, 0), 1);
        due("how many", x.told(1), 8);
        for (int i = 0; i < 8; i++) {
            due("the day ahead of act " + i, i == 0 ? NONE : x.grade(10 * i - 1, 0), i == 0 ? NONE : (i - 1) % 6);
            due("the day of act " + i, x.grade(10 * i, 0), i % 6);
        }
        x.say(';');
        due("a ninth with a fault", x.act(70), FULL);
        due("a ninth of no day", x.act(401), OUTSIDE);
        QuayBrands y = Checks.saying("C:h<");
        due("a fault", y.act(400), NO);
        due("a fault, of no day", y.act(401), OUTSIDE);
        due("a fault, of no day", y.act(-1), OUTSIDE);
        due("its signs stay", y.told(0), 4);
        y.say('0');
        due("none", y.act(400), 1);
    }

    /** "the one in force since the latest DAY not later (of one DAY the last told)". */
    private static void actOfADay() {
        QuayBrands x = new QuayBrands();
        due("no act on day 0", x.grade(0, -1), 0);
        due("no act on day 400", x.grade(400, -1), 0);
        due("none of no act", x.grade(400, 0), NONE);
        Checks.sayAll(x, "A:h<9");
        x.act(400);
        due("the last day", x.grade(400, 0), 0);
        due("the last but one", x.grade(399, 0), NONE);
        due("the last but one", x.grade(399, -1), 0);
        Checks.sayAll(x, "B:h<9");
        x.act(0);
        due("told later of an earlier day, then", x.grade(400, 0), 0);
        due("told later of an earlier day", x.grade(399, 0), 1);
        due("the first day", x.grade(0, 0), 1);
        Checks.sayAll(x, "C:h<9;D:h<9");
        x.act(400);
        due("of one day the last told", x.grade(400, 0), 2);
        due("its grades", x.grade(400, -1), 2);
        Checks.sayAll(x, "E:h<9");
        x.act(200);
        due("the day ahead", x.grade(199, 0), 1);
        due("the day", x.grade(200, 0), 4);
        due("the days behind", x.grade(399, 0), 4);
        Checks.sayAll(x, "F:h<9");
        x.act(400);
        due("of one day the last of three", x.grade(400, 0), 5);
    }

    /** "GRADES of THE ACT of a DAY, in its order: how many (i = -1; 0: no ACT), the i-th; NONE". */
    private static void gradesInOrder() {
        QuayBrands one = Checks.acting("F:h<9,t<9,s<9", 3);
        due("one grade of three rules", one.grade(3, -1), 1);
        due("F is 5", one.grade(3, 0), 5);
        due("beyond it", one.grade(3, 1), NONE);
        QuayBrands six = Checks.acting("F:h<1;A:h<1,h<2;E:h<1;B:h<1;D:h<1,t>1,q=2;C:h<1", 3);
        int[] order = {5, 0, 4, 1, 3, 2};
        due("six grades", six.grade(3, -1), 6);
        for (int i = 0; i < 6; i++) {
            due("grade " + i, six.grade(3, i), order[i]);
        }
        for (int i : new int[] {6, -2, -3, Checks.MIN, Checks.MAX}) {
            due("grade " + i, six.grade(3, i), NONE);
            due("grade " + i + " of no act", six.grade(2, i), NONE);
            due("grade " + i + " of no day", six.grade(401, i), OUTSIDE);
        }
        due("how many of no day", six.grade(-1, -1), OUTSIDE);
    }

    /** Barrel 0 of quay 2: its fish lay 3 hours at most, 20 tiers, salt 77, least size 6. */
    private static int brandBy(String text) {
        QuayBrands x = Checks.acting(text, 0);
        x.set(2, 1, 200);
        x.salt(2, 6, 4, 77);
        x.land(0, 2, 3, 800, 6);
        return x.brand(2, 0, 0);
    }

    /** "a FACT (h t s z q), one of < > =, and a number": each fact, each comparison, at the number and on both its sides. */
    private static void rulesAtTheirEdges() {
        int[] values = {3, 20, 77, 6, 2};
        for (int fact = 0; fact < 5; fact++) {
            for (int number = values[fact] - 1; number <= values[fact] + 1; number++) {
                for (char comparer : new char[] {'<', '>', '='}) {
                    boolean isSo = comparer == '<' ? values[fact] < number : comparer == '>' ? values[fact] > number : values[fact] == number;
                    String rule = "" + "htszq".charAt(fact) + comparer + number;
                    due("C:" + rule, brandBy("C:" + rule), isSo ? 2 : NONE);
                    due("zeros ahead of " + rule, brandBy("C:" + rule.substring(0, 2) + "00" + number), isSo ? 2 : NONE);
                }
            }
        }
        String[] texts = {"B:h<9999", "B:h>9999", "B:h=9999", "B:h<0", "B:h>0", "B:h<0003", "B:h<0004", "B:h=3333", "B:h<1000", "B:s=077", "B:s=770"};
        int[] brands = {1, NONE, NONE, NONE, 1, NONE, 1, NONE, 1, 1, NONE};
        for (int i = 0; i < texts.length; i++) {
            due(texts[i], brandBy(texts[i]), brands[i]);
        }
    }

    /** "the first GRADE of that ACT all RULES of which are so"; "GRADES are 0 (A) to 5 (F)". */
    private static void firstGradeThatHolds() {
        for (int letter = 0; letter < 6; letter++) {
            due("letter " + letter, brandBy("ABCDEF".charAt(letter) + ":h=3"), letter);
        }
        String[] texts = {"E:h=3;A:h=3", "A:h=3;E:h=3", "E:h=4;A:h=3", "E:h=4;A:h=4", "E:h=4;A:h=4;D:h=3", "E:h=4,h=3;A:h=3", "E:h=3,h=4;A:h=3",
            "E:h=3,t=20,s=77,z=6,q=2;A:h=3", "E:h=3,t=20,s=77,z=6,q=1;A:h=3", "E:h=4,t=20,s=77,z=6,q=2;A:h=3", "E:h=3,t=20,s=76,z=6,q=2;A:h=3",
            "A:h=4;B:h=4;C:h=4;D:h=4;E:h=4;F:h=3", "A:h=4;B:h=4;C:h=4;D:h=4;E:h=4;F:h=4", "A:h=4;B:h=3;C:h=3"};
        int[] brands = {4, 0, 0, NONE, 3, 0, 0, 4, 0, 0, 0, 5, NONE, 1};
        for (int i = 0; i < texts.length; i++) {
            due(texts[i], brandBy(texts[i]), brands[i]);
        }
        due("without an act", withoutAct().brand(0, 0, 400), NONE);
    }

    /** Eight acts of five rules, parted into grades in eight ways; one rule of each is not so. */
    private static void eightActsOfFiveRules() {
        int[][] parts = {{5}, {3, 2}, {1, 4}, {2, 2, 1}, {1, 1, 1, 1, 1}, {4, 1}, {2, 3}, {1, 2, 2}};
        for (int notSo = 0; notSo <= 5; notSo++) {
            QuayBrands x = new QuayBrands();
            x.set(2, 1, 200);
            x.salt(2, 6, 4, 77);
            x.land(0, 2, 3, 800, 6);
            for (int a = 0; a < 8; a++) {
                Checks.sayAll(x, fiveRules(a, parts[a], notSo));
                due("act " + a, x.act(a), a + 1);
            }
            for (int a = 0; a < 8; a++) {
                boolean isFirstSo = notSo >= parts[a][0];
                int second = parts[a].length > 1 ? (a + 1) % 6 : NONE;
                due("brand of act " + a + ", not so is " + notSo, x.brand(2, 0, a), isFirstSo ? a % 6 : second);
                due("grades of act " + a, x.grade(a, -1), parts[a].length);
                for (int g = 0; g < parts[a].length; g++) {
                    due("grade " + g + " of act " + a, x.grade(a, g), (a + g) % 6);
                }
                due("beyond the last of act " + a, x.grade(a, parts[a].length), NONE);
            }
        }
    }

    private static String fiveRules(int firstLetter, int[] parts, int notSo) {
        String[] rules = {"h=3", "t=20", "s=77", "z=6", "q=2"};
        StringBuilder text = new StringBuilder();
        int at = 0;
        for (int g = 0; g < parts.length; g++) {
            text.append(g == 0 ? "" : ";").append("ABCDEF".charAt((firstLetter + g) % 6)).append(":");
            for (int r = 0; r < parts[g]; r++) {
                text.append(r == 0 ? "" : ",").append(rules[at]).append(at == notSo ? "1" : "");
                at++;
            }
        }
        return text.toString();
    }

    private static QuayBrands withoutAct() {
        QuayBrands x = new QuayBrands();
        x.land(0, 0, 0, 800, 1);
        return x;
    }

    /** A barrel has a brand on each day by the act of that day, whenever it is done. */
    private static void brandOnADay() {
        QuayBrands x = Checks.acting("A:h<9", 100);
        x.land(0, 0, 2000, 800, 1);
        due("ahead of the act", x.brand(0, 0, 99), NONE);
        due("the act's day, ahead of the landing", x.brand(0, 0, 100), 0);
        due("the last day", x.brand(0, 0, 400), 0);
        due("the first day", x.brand(0, 0, 0), NONE);
    }

    public static void main(String[] args) {
        lastOfTheCalls();
        everySignAtEachPlace();
        firstFault();
        sixtySigns();
        wiping();
        eightActs();
        actOfADay();
        gradesInOrder();
        rulesAtTheirEdges();
        firstGradeThatHolds();
        eightActsOfFiveRules();
        brandOnADay();
        Checks.end();
    }
}

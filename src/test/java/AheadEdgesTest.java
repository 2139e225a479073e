import java.lang.reflect.Method;
import java.lang.reflect.Modifier;
import java.util.List;
import java.util.NoSuchElementException;

/** What the document says ahead of its promises: the public face, words and numbers that hold for all of them. */
public final class AheadEdgesTest {

    public static void main(String[] args) throws Exception {
        Sentences.ask(AheadEdgesTest.class);
    }

    @Says(promise = 0, words = "An object is used for at most 512 calls after it has been made; what later calls answer is free.")
    private static void the512thCallAnswersAsTheFirst(Checks c) {
        MoreThanHalf x = Streets.chain(14);
        Streets.tell(x, "0>13*1");
        int calls = 4 * 14 + 4 * 14;
        while (calls < 510) {
            x.sheet(2, 14, 50, 0);
            x.fates();
            calls += 2;
        }
        c.due("call 511, sheet(2, 14, 49, 0)", x.sheet(2, 14, 49, 0), 14 * 49);
        c.due("call 512, behind(1)", x.behind(1), 1 + 2 + (1 << 13));
    }

    @Says(promise = 0, words = "public static final int NONE = -1;")
    private static void none(Checks c) throws Exception {
        int modifiers = MoreThanHalf.class.getField("NONE").getModifiers();
        c.due("NONE", MoreThanHalf.NONE, -1);
        c.due("static final", Modifier.isStatic(modifiers) && Modifier.isFinal(modifiers), true);
    }

    @Says(promise = 0, words = "public int person(int i, int what) throws NoSuchElementException;")
    private static void threeCallsThrow(Checks c) {
        int seen = 0;
        for (Method method : MoreThanHalf.class.getDeclaredMethods()) {
            if (Modifier.isPublic(method.getModifiers())) {
                boolean throwing = List.of(method.getExceptionTypes()).equals(List.of(NoSuchElementException.class));
                boolean none = method.getExceptionTypes().length == 0;
                boolean named = List.of("person", "rates", "row").contains(method.getName());
                c.due(method.getName() + " names the exception", named ? throwing : none, true);
                seen++;
            }
        }
        c.due("calls of the face", seen, 47);
    }

    // ---- PEOPLE

    @Says(promise = 0, words = "PEOPLE 0 .. (at most 14)")
    private static void fourteenPeople(Checks c) {
        MoreThanHalf x = Streets.alike(14, "n5,1");
        c.due("14 of them", x.count(0), 14);
        c.due("number 0", x.person(0, 1), 5);
        c.due("number 13", x.person(13, 1), 5);
        c.due("one more", Checks.street(x, "n5,1"), -1);
        c.due("still 14", x.count(0), 14);
        c.throwsNoSuch("number 14", () -> x.person(14, 1));
        c.throwsNoSuch("number -1", () -> x.person(-1, 1));
    }

    @Says(promise = 0, words = "BELIEVES or not, NEED 0 .. 99")
    private static void needs(Checks c) {
        MoreThanHalf x = Checks.of("b0,1;n99,1;n00,1");
        c.due("BELIEVES", x.person(0, 0), 1);
        c.due("or not", x.person(1, 0), 0);
        c.due("NEED 0", x.person(0, 1), 0);
        c.due("NEED 99", x.person(1, 1), 99);
        c.due("NEED 00", x.person(2, 1), 0);
        c.due("NEED 100 told", Checks.street(x, "n100,1"), -4);
        c.due("NEED 100 put", x.set(1, 0, 100), -1);
        c.due("NEED -1 put", x.set(0, 0, -1), -1);
    }

    @Says(promise = 0, words = "PRICE 0 .. 9")
    private static void prices(Checks c) {
        MoreThanHalf x = Checks.of("n1,0;n1,9");
        c.due("PRICE 0", x.person(0, 2), 0);
        c.due("PRICE 9", x.person(1, 2), 9);
        c.due("PRICE 10 told", Checks.street(x, "n1,10"), -5);
        c.due("PRICE 10 put", x.set(1, 1, 10), -1);
        c.due("PRICE -1 put", x.set(0, 1, -1), -1);
    }

    @Says(promise = 0, words = "FIRM or not (never changes)")
    private static void firmOnesNeverChange(Checks c) {
        MoreThanHalf x = Checks.of("b0,1!;n0,1!;b99,1;n99,1;1>0*9;0>1*9;1>2*1;0>3*1");
        c.due("behind a DAY", x.behind(5), 9);
        c.due("nobody BELIEVES, NEED 0", x.behind(0), 0);
        c.due("they hear one who does", x.behind(3), 15);
        c.due("talk(2)", x.talk(2), -1);
        x.go(200);
        c.due("behind 200 DAYS", x.state(200), 9);
        c.due("won over by SHOP 0: the first that is not FIRM", x.picks(0), 3);
        c.due("won over by SHOP 1: the first that is not FIRM", x.picks(1), 2);
        x.keep(0);
        x.again(0);
        c.due("FIRM ones", x.count(3), 3);
        c.due("one by one", x.onebyone(), 0);
        c.row("one by one", x, 9, 0);
    }

    @Says(promise = 0, words = "LOUD of two: 0 .. 9: how loud one hears another one")
    private static void loud(Checks c) {
        MoreThanHalf x = Checks.of("n1,1;n1,1;0>1*9");
        c.due("LOUD 9", x.hears(1, 0), 9);
        c.due("LOUD 0", x.hears(0, 1), 0);
        c.due("LOUD 10 told", Checks.street(x, "0>1*10"), -6);
        c.due("LOUD 10 put", x.meet(0, 1, 10), -1);
        c.due("LOUD -1 put", x.meet(0, 1, -1), -1);
        c.due("as it was", x.hears(1, 0), 9);
    }

    @Says(promise = 0, words = "(at first 0; not itself)")
    private static void nobodyHearsItself(Checks c) {
        MoreThanHalf x = Streets.alike(14, "b50,1");
        c.due("at first nobody is heard", x.count(7), 0);
        c.due("12 by 13", x.hears(13, 12), 0);
        c.due("told", Checks.street(x, "0-0*1"), -3);
        c.due("told, of two digits", Checks.street(x, "13>13*1"), -5);
        c.due("asked", x.hears(13, 13), -1);
        c.due("put", x.meet(13, 13, 1), -1);
        c.due("ALL", x.person(13, 4), 0);
    }

    @Says(promise = 0, words = "ALL of one: the sum of how loud it hears all others.")
    private static void all(Checks c) {
        MoreThanHalf x = Streets.alike(14, "n50,1");
        c.due("nobody", x.person(13, 4), 0);
        for (int i = 0; i < 13; i++) {
            Streets.tell(x, i + ">13*9");
        }
        c.due("13 others as loud as can be", x.person(13, 4), 117);
        c.due("they hear nobody", x.person(0, 4), 0);
    }

    // ---- THE STREET

    @Says(promise = 0, words = "THE STREET is a text of at most 76 signs")
    private static void streetOf76(Checks c) {
        String text = Streets.lines("n0,0", 14) + ";00-1*1";
        c.due("signs", text.length(), 76);
        c.due("76 signs", Checks.street(new MoreThanHalf(), text), 15);
        c.due("77 signs", Checks.street(new MoreThanHalf(), text.replace("-1", "-01")), -77);
        c.due("80 signs", Checks.street(new MoreThanHalf(), text + ";0-1"), -77);
    }

    @Says(promise = 0, words = "LINES with ; between")
    private static void linesWithSemicolonsBetween(Checks c) {
        c.due("one LINE", Checks.street(new MoreThanHalf(), "n1,1"), 1);
        c.due("two LINES", Checks.street(new MoreThanHalf(), "n1,1;n1,1"), 2);
        c.due("nothing but ;", Checks.street(new MoreThanHalf(), ";"), -1);
        c.due("; ahead", Checks.street(new MoreThanHalf(), ";n1,1"), -1);
        c.due("; behind", Checks.street(new MoreThanHalf(), "n1,1;"), -6);
        c.due("two ;", Checks.street(new MoreThanHalf(), "n1,1;;n1,1"), -6);
        c.due("no ;", Checks.street(new MoreThanHalf(), "n1,1n1,1"), -5);
    }

    @Says(promise = 0, words = "what they tell comes behind what there is")
    private static void newPeopleComeLast(Checks c) {
        MoreThanHalf x = Checks.of("n7,1;b8,2!");
        c.due("of PEOPLE told ahead in the same text", Checks.street(x, "n9,3;2-0*4;b10,4;3>2*5"), 4);
        int[] needs = { 7, 8, 9, 10 };
        for (int i = 0; i < 4; i++) {
            c.due("NEED of " + i, x.person(i, 1), needs[i]);
        }
        c.due("STATE", x.state(0), 2 + 8);
        c.due("LOUD", x.hears(2, 0) * 10 + x.hears(2, 3), 45);
        c.due("of PEOPLE told behind it", Checks.street(x, "4-0*1;n1,1"), -1);
        c.due("LOUD told twice", Checks.street(x, "0-1*3;0-1*6"), 2);
        c.due("the last one", x.hears(0, 1) * 10 + x.hears(1, 0), 66);
    }

    @Says(promise = 0, words = "b or n (BELIEVES, not), NEED, a comma, PRICE, and perhaps ! (FIRM)")
    private static void lineOfAPerson(Checks c) {
        MoreThanHalf x = Checks.of("b12,3!", "n4,5");
        int[][] due = { { 1, 12, 3, 1 }, { 0, 4, 5, 0 } };
        for (int i = 0; i < 2; i++) {
            for (int what = 0; what < 4; what++) {
                c.due("person(" + i + ", " + what + ")", x.person(i, what), due[i][what]);
            }
        }
        String[] wrong = { "B12,3", "N12,3", "b,3", "b12.3", "b12;3", "b123", "b12,!", "b12,3!!", "b12,3?", "b!12,3", "bn12,3" };
        int[] at = { 0, 0, 1, 3, 3, 3, 4, 6, 5, 1, 1 };
        for (int k = 0; k < wrong.length; k++) {
            c.due(wrong[k], Checks.street(x, wrong[k]), -1 - at[k]);
        }
    }

    @Says(promise = 0,
        words = "or an acquaintance: one of PEOPLE, - (both hear each other so) or > (the second one hears the first), another one, *")
    private static void lineOfAnAcquaintance(Checks c) {
        MoreThanHalf x = Checks.of("n1,1;n1,1;n1,1", "0-1*4;1>2*5");
        c.due("both", x.hears(0, 1) * 10 + x.hears(1, 0), 44);
        c.due("the second one hears the first", x.hears(2, 1), 5);
        c.due("not the first the second one", x.hears(1, 2), 0);
        String[] wrong = { "0<1*4", "0=1*4", "0--1*4", "0*1", "-1*4", "0-*4", "0-1", "0-1+4", "0-1**4", "0-1*", "0-1*-4", "0-1*4!", "0-1-2*4" };
        int[] at = { 1, 1, 2, 1, 0, 2, 3, 3, 4, 4, 4, 5, 3 };
        for (int k = 0; k < wrong.length; k++) {
            c.due(wrong[k], Checks.street(x, wrong[k]), -1 - at[k]);
        }
    }

    @Says(promise = 0, words = "LOUD (that becomes it, also 0)")
    private static void loudBecomesIt(Checks c) {
        MoreThanHalf x = Checks.of("n1,1;n1,1", "0-1*9");
        c.due("it is not added", Checks.street(x, "0-1*4"), 1);
        c.due("both", x.hears(0, 1) * 10 + x.hears(1, 0), 44);
        c.due("0 for one", Checks.street(x, "1>0*0"), 1);
        c.due("one is left", x.hears(0, 1) * 10 + x.hears(1, 0), 4);
        c.due("0 for both", Checks.street(x, "0-1*0"), 1);
        c.due("none is left", x.count(7), 0);
        c.due("whose ALL is 0 again", x.behind(1), 1);
    }

    @Says(promise = 0, words = "PEOPLE and NEED are numbers of 1 or 2 digits, PRICE and LOUD digits.")
    private static void digits(Checks c) {
        MoreThanHalf x = Streets.alike(11, "n1,1");
        String[] right = { "0-1*1", "00-01*1", "10>00*9", "0>10*0", "n1,1", "n01,1" };
        for (String text : right) {
            c.due(text, Checks.street(x, text), 1);
        }
        String[] wrong = { "n,1", "n001,1", "n1,", "n1,01", "000-1*1", "0-011*1", "0-1*01", "0-1*", "0-1*11" };
        int[] at = { 1, 3, 3, 4, 2, 4, 5, 4, 5 };
        for (int k = 0; k < wrong.length; k++) {
            c.due(wrong[k], Checks.street(x, wrong[k]), -1 - at[k]);
        }
        char[] beside = { '/', ':' };
        for (char sign : beside) {
            c.due("NEED " + sign, Checks.street(x, "n" + sign + ",1"), -2);
            c.due("PRICE " + sign, Checks.street(x, "n1," + sign), -4);
            c.due("one of PEOPLE " + sign, Checks.street(x, sign + "-1*1"), -1);
            c.due("LOUD " + sign, Checks.street(x, "0-1*" + sign), -5);
        }
    }

    // ---- STATES and DAYS

    @Says(promise = 0, words = "A STATE: who BELIEVES (bits).")
    private static void bits(Checks c) {
        MoreThanHalf x = Streets.more(Checks.of("b1,1"), 12, "n1,1");
        Streets.tell(x, "b1,1");
        c.due("the first and the last of 14", x.state(0), 1 + (1 << 13));
        x.talk(Streets.ALL_14 - 1 - (1 << 13));
        c.due("all 14", x.state(0), 16383);
        c.due("nobody", Streets.alike(14, "n1,1").state(0), 0);
    }

    @Says(promise = 0, words = "A DAY goes by: of the STATE as it is")
    private static void allAtOnce(Checks c) {
        MoreThanHalf x = Checks.of("b50,1;n50,1;0-1*1");
        c.due("each takes up what the other one was", x.go(1), 2);
        c.due("and back", x.go(1), 1);
        c.due("the last of a ring of 14 hears the first", Streets.rings(14).behind(1), 1 << 13);
    }

    @Says(promise = 0, words = "each one that is not FIRM and whose ALL is above 0 BELIEVES then")
    private static void whoChanges(Checks c) {
        MoreThanHalf x = Checks.of("b0,1!;n0,1;n0,1!;n0,1;0>1*1;0>2*1");
        c.due("ALL 1; FIRM; ALL 0", x.behind(1), 3);
        x.meet(0, 3, 1);
        c.due("ALL of 3 is 1, too", x.behind(1), 11);
    }

    @Says(promise = 0, words = "if 100 times the sum of how loud it hears those who BELIEVE is above NEED times ALL")
    private static void aboveItsShare(Checks c) {
        MoreThanHalf x = Checks.of("n50,1;n1,1;n1,1;1>0*1;2>0*1");
        c.due("100 is not above 50 * 2", x.behind(2) & 1, 0);
        x.set(0, 0, 49);
        c.due("100 is above 49 * 2", x.behind(2) & 1, 1);
        x.set(0, 0, 0);
        c.due("0 is not above 0", x.behind(0) & 1, 0);
        c.due("100 is above 0", x.behind(4) & 1, 1);
        x.set(0, 0, 99);
        c.due("200 is above 99 * 2", x.behind(6) & 1, 1);
        MoreThanHalf y = Streets.alike(14, "n99,1");
        for (int i = 1; i < 13; i++) {
            Streets.tell(y, i + ">0*9");
        }
        Streets.tell(y, "13>0*1");
        c.due("10800 is above 99 * 109", y.behind(Streets.ALL_14 - 1 - (1 << 13)) & 1, 1);
        c.due("10000 is not above 99 * 109", y.behind(Streets.ALL_14 - 1 - 2) & 1, 0);
        y.meet(0, 13, 9);
        c.due("11700 is above 99 * 117", y.behind(Streets.ALL_14 - 1) & 1, 1);
        c.due("10800 is not above 99 * 117", y.behind(Streets.ALL_14 - 1 - 2) & 1, 0);
        y.set(0, 0, 0);
        c.due("900 is above 0", y.behind(2) & 1, 1);
        y.set(0, 0, 7);
        c.due("900 is above 7 * 117", y.behind(2) & 1, 1);
        y.set(0, 0, 8);
        c.due("900 is not above 8 * 117", y.behind(2) & 1, 0);
    }

    @Says(promise = 0, words = "else it does not")
    private static void whoHearsTooFewStops(Checks c) {
        MoreThanHalf x = Checks.of("b0,1;n0,1;b99,1;1>0*1;0>2*9;1>2*9");
        c.due("nobody of those it hears", x.behind(1) & 1, 0);
        c.due("half of those it hears", x.behind(5) & 4, 0);
        c.due("all of those it hears", x.behind(3), 7);
    }

    @Says(promise = 0, words = "all others stay as they are")
    private static void othersStay(Checks c) {
        MoreThanHalf x = Checks.of("b99,1!;n0,1!;b99,1;n0,1;n0,1;4>0*9;4>1*9;0>4*9");
        c.due("FIRM, or hearing nobody", x.behind(0b10101), 0b10101);
        c.due("told otherwise", x.behind(0b11010), 0b01010);
    }

    @Says(promise = 0, words = "DAYS 0 .. (at most 200) that went by")
    private static void twoHundredDays(Checks c) {
        MoreThanHalf x = Checks.of("b50,1;n50,1;0-1*1");
        c.due("no DAY", x.count(1), 0);
        x.go(199);
        c.due("199 DAYS", x.count(1), 199);
        c.due("STATE of the 199th", x.state(199), 2);
        x.go(1);
        c.due("200 DAYS", x.count(1), 200);
        c.due("STATE of the 200th", x.state(200), 1);
        x.go(1);
        c.due("never more", x.count(1), 200);
        c.due("STATE now", x.person(0, 0), 1);
    }

    @Says(promise = 0, words = "THE STATE now is that of DAY number DAYS.")
    private static void now(Checks c) {
        MoreThanHalf x = Checks.of(Streets.LINE);
        x.talk(2);
        for (int day = 0; day < 3; day++) {
            c.due("BELIEVE now", x.count(2), Integer.bitCount(x.state(x.count(1))));
            c.due("go(0)", x.go(0), new int[] { 3, 5, 2 }[day]);
            x.go(1);
        }
        x.talk(2);
        c.due("talked round now, not on the first DAY", x.state(3) * 10 + x.state(0), 73);
    }

    @Says(promise = 0,
        words = "To TALK ROUND: one that is not FIRM and does not BELIEVE BELIEVES (for its PRICE), then the DAY goes by.")
    private static void talkRound(Checks c) {
        MoreThanHalf x = Checks.of("n50,7;n50,9;0>1*1");
        c.due("who hears nobody BELIEVES behind the DAY", x.daily(1, 1), 7);
        c.due("who hears another one does not", x.daily(2, 1), 7);
        c.row("but through that one", x, 1, 0);
        x.talk(1);
        c.due("who BELIEVES costs nothing more", x.daily(2, 1), 0);
        c.row("nobody", x, 1, -1);
        c.due("FIRM", Checks.of("n50,0!").daily(1, 6), -2);
        c.due("PRICE 0", Checks.of("n50,0").daily(1, 6), 0);
    }

    @Says(promise = 0, words = "(PEOPLE told as bits: all of them have to BELIEVE on one same DAY of 0 .. n from now, "
        + "DAY 0 being now, behind the talking)")
    private static void onOneSameDay(Checks c) {
        MoreThanHalf x = Checks.of("b50,1!;n50,2;n50,3;0>1*1;1>2*1");
        c.due("on DAY 2 alone, too late by one", x.cheapest(6, 1), 2);
        c.row("so 1 is talked round", x, 2);
        c.due("on DAY 2", x.cheapest(6, 2), 0);
        c.row("nobody", x, 0);
        c.due("on DAY 0", x.cheapest(6, 0), 5);
        c.row("both", x, 6);
        MoreThanHalf pair = Checks.of("b50,1;n50,1;0-1*1");
        c.due("each of two by turns, never both", pair.fewest(3, 20), 1);
        c.row("the other one", pair, 2);
    }

    // ---- RULES and SHOPS

    private static void value(Checks c, String rule, int due) {
        MoreThanHalf x = Checks.of("n33,7");
        c.due("RULE " + rule, Checks.rule(x, 0, rule), 0);
        c.due(rule, x.rates(0, 0), due);
    }

    private static void wrongRule(Checks c, String rule, int at) {
        c.due("RULE " + rule, Checks.rule(new MoreThanHalf(), 1, rule), -1 - at);
    }

    @Says(promise = 0, words = "RULES 0, 1 of two SHOPS are texts of at most 40 signs")
    private static void rulesOf40(Checks c) {
        MoreThanHalf x = Checks.of("n1,1");
        String forty = "1+".repeat(19) + "23";
        c.due("signs", forty.length(), 40);
        c.due("40 signs", Checks.rule(x, 0, forty), 0);
        c.due("its value", x.rates(0, 0), 42);
        c.due("41 signs", Checks.rule(x, 0, forty + "4"), -41);
        c.due("RULE 1", Checks.rule(x, 1, "i"), 0);
        c.due("RULE 2", Checks.rule(x, 2, "i"), -100);
        c.due("RULE -1", Checks.rule(x, -1, "i"), -100);
    }

    @Says(promise = 0, words = "(at first none: 0)")
    private static void atFirstNoRules(Checks c) {
        MoreThanHalf x = Checks.of("b1,1;n9,9;b9,9;n9,9;0-1*9");
        c.due("RULES told", x.count(4), 0);
        for (int i = 0; i < 4; i++) {
            c.due("RULE 0 for " + i, x.rates(0, i), 0);
            c.due("RULE 1 for " + i, x.rates(1, i), 0);
        }
        c.due("of equal ones the first, SHOP 0", x.picks(0), 0);
        c.due("of equal ones the first, SHOP 1", x.picks(1), 1);
    }

    @Says(promise = 0, words = "EXPRESSION: < > = bind least")
    private static void comparisonsBindLeast(Checks c) {
        value(c, "1+1=2", 1);
        value(c, "2=1+1", 1);
        value(c, "3<1+1", 0);
        value(c, "1+1>1*2-1", 1);
        value(c, "-1<0", 1);
        value(c, "1+(1=2)", 1);
    }

    @Says(promise = 0, words = "(two; 1 or 0; not one behind the other)")
    private static void comparisons(Checks c) {
        String[] rules = { "1<2", "2<1", "1<1", "2>1", "1>2", "1>1", "1=1", "1=2", "2=1" };
        int[] due = { 1, 0, 0, 1, 0, 0, 1, 0, 0 };
        for (int k = 0; k < rules.length; k++) {
            value(c, rules[k], due[k]);
        }
        for (String first : List.of("<", ">", "=")) {
            for (String second : List.of("<", ">", "=")) {
                wrongRule(c, "i" + first + "n" + second + "p", 3);
                wrongRule(c, "(i" + first + "n" + second + "p)", 4);
                value(c, "(1" + first + "2)" + second + "3", second.equals("<") ? 1 : 0);
            }
            wrongRule(c, first + "i", 0);
            wrongRule(c, "i" + first, 2);
            wrongRule(c, "i" + first + first + "i", 2);
        }
        value(c, "1<(2<3)", 0);
    }

    @Says(promise = 0, words = "then + - (from the left)")
    private static void sums(Checks c) {
        value(c, "7-2-1", 4);
        value(c, "7-2+1", 6);
        value(c, "7-(2+1)", 4);
        value(c, "1+2*3", 7);
        value(c, "2*3-1", 5);
        wrongRule(c, "+1", 0);
        wrongRule(c, "1++1", 2);
        wrongRule(c, "1+", 2);
    }

    @Says(promise = 0, words = "then * / (from the left; by 0: 0; cut to 0)")
    private static void products(Checks c) {
        value(c, "16/4/2", 2);
        value(c, "16/(4/2)", 8);
        value(c, "3/4*2", 0);
        value(c, "2*3/4", 1);
        value(c, "7/0", 0);
        value(c, "0/0", 0);
        value(c, "-7/0", 0);
        value(c, "7/(1-1)+5", 5);
        value(c, "7/2", 3);
        value(c, "-7/2", -3);
        value(c, "7/-2", -3);
        value(c, "-7/-2", 3);
        value(c, "1/2", 0);
        value(c, "-1/2", 0);
        wrongRule(c, "*1", 0);
        wrongRule(c, "1*/1", 2);
        wrongRule(c, "1/", 2);
    }

    @Says(promise = 0, words = "then - ahead of a thing (any many)")
    private static void minusAhead(Checks c) {
        value(c, "-7", -7);
        value(c, "--7", 7);
        value(c, "2---7", -5);
        value(c, "2*-7", -14);
        value(c, "-2*-7", 14);
        value(c, "-(1+2)", -3);
        value(c, "-7+2", -5);
        value(c, "-".repeat(39) + "7", -7);
        value(c, "-".repeat(38) + "7", 7);
        wrongRule(c, "-", 1);
        wrongRule(c, "-".repeat(40), 40);
        wrongRule(c, "-+1", 1);
    }

    @Says(promise = 0, words = "things: a NUMBER of 1 to 3 digits")
    private static void numbers(Checks c) {
        value(c, "0", 0);
        value(c, "9", 9);
        value(c, "10", 10);
        value(c, "999", 999);
        value(c, "007", 7);
        wrongRule(c, "1000", 3);
        wrongRule(c, "0000", 3);
        wrongRule(c, "i+1234", 5);
        wrongRule(c, "1i", 1);
        wrongRule(c, "i1", 1);
        wrongRule(c, "1 2", 1);
        wrongRule(c, "/", 0);
        wrongRule(c, ":", 0);
    }

    @Says(promise = 0, words = "an EXPRESSION in ( ) (at most 4 in one another)")
    private static void parentheses(Checks c) {
        value(c, "(7)", 7);
        value(c, "((((7))))", 7);
        value(c, "((((7))))+((((8))))", 15);
        value(c, "(((1+(2))))*(3<4)", 3);
        wrongRule(c, "(((((7)))))", 4);
        wrongRule(c, "((((7)+((7", 8);
        wrongRule(c, "((((1))+(((1", 10);
        wrongRule(c, "()", 1);
        wrongRule(c, "(", 1);
        wrongRule(c, "(7", 2);
        wrongRule(c, ")", 0);
        wrongRule(c, "7)", 1);
        wrongRule(c, "((7)", 4);
        wrongRule(c, "(7))", 3);
        wrongRule(c, "7(", 1);
        wrongRule(c, "(7)7", 3);
    }

    @Says(promise = 0, words = "of one of PEOPLE: i its number, n NEED, p PRICE, a ALL")
    private static void lettersOfOne(Checks c) {
        MoreThanHalf x = Streets.more(Streets.alike(13, "n0,0"), 1, "n99,9");
        for (int i = 0; i < 13; i++) {
            Streets.tell(x, i + ">13*9");
        }
        String[] letters = { "i", "n", "p", "a" };
        int[] most = { 13, 99, 9, 117 };
        for (int k = 0; k < 4; k++) {
            Checks.rule(x, 0, letters[k]);
            c.due(letters[k] + " of 0", x.rates(0, 0), 0);
            c.due(letters[k] + " of 13", x.rates(0, 13), most[k]);
        }
        for (String wrong : List.of("I", "x", "b", "e")) {
            wrongRule(c, wrong, 0);
        }
    }

    @Says(promise = 0, words = "s the sum of how loud it hears those who are of the SHOP's side")
    private static void ofTheShopsSide(Checks c) {
        MoreThanHalf x = Checks.of("n1,1;b1,1;n1,1!;b1,1!;1>0*1;2>0*2;3>0*4");
        Checks.rule(x, 0, "s");
        Checks.rule(x, 1, "s");
        c.due("those who do not BELIEVE", x.rates(0, 0), 2);
        c.due("those who BELIEVE", x.rates(1, 0), 5);
        c.due("nobody is heard", x.rates(0, 1) + x.rates(1, 1), 0);
        MoreThanHalf all = Streets.alike(14, "b1,1");
        Checks.rule(all, 0, "s");
        Checks.rule(all, 1, "s");
        for (int i = 0; i < 13; i++) {
            Streets.tell(all, i + ">13*9");
        }
        c.due("all 13 others BELIEVE", all.rates(1, 13), 117);
        c.due("nobody does not", all.rates(0, 13), 0);
    }

    @Says(promise = 0, words = "o how loud all others hear it, d how many hear it at all")
    private static void howLoudItIsHeard(Checks c) {
        MoreThanHalf x = Streets.alike(14, "n1,1");
        for (int i = 0; i < 13; i++) {
            Streets.tell(x, "13>" + i + "*9");
        }
        Checks.rule(x, 0, "o");
        Checks.rule(x, 1, "d");
        c.due("o of 13", x.rates(0, 13), 117);
        c.due("d of 13", x.rates(1, 13), 13);
        c.due("o of 0", x.rates(0, 0), 0);
        c.due("d of 0", x.rates(1, 0), 0);
        Streets.tell(x, "13>0*0");
        Streets.tell(x, "13>1*1");
        c.due("o with one less and one quiet", x.rates(0, 13), 100);
        c.due("d with one less", x.rates(1, 13), 12);
    }

    @Says(promise = 0, words = "As ints.")
    private static void wrapAround(Checks c) {
        String least = "128*256*256*256";
        value(c, least, Integer.MIN_VALUE);
        value(c, least + "-1", Integer.MAX_VALUE);
        value(c, least + "-1+1", Integer.MIN_VALUE);
        value(c, "-(" + least + ")", Integer.MIN_VALUE);
        value(c, "-" + least + "/-1", Integer.MIN_VALUE);
        value(c, least + "<0", 1);
        value(c, least + ">1", 0);
        value(c, "1-" + least + "<0", 1);
        value(c, "2*" + least, 0);
        value(c, "999*999*999*999", (int) (999L * 999 * 999 * 999));
    }

    @Says(promise = 0, words = "SHOP 0 wants that PEOPLE do not BELIEVE, SHOP 1 that they do")
    private static void whatShopsWant(Checks c) {
        MoreThanHalf x = Checks.of("b1,1;n1,1");
        Checks.rule(x, 0, "0");
        c.due("SHOP 1 wins 1, SHOP 0 one of them", x.game(1), 1);
        c.due("SHOP 1 wins 1, SHOP 0's RULE 0", x.against(1), 1);
        c.row("SHOP 1's first", x, 1);
        x.talk(2);
        c.due("nobody is left to SHOP 1", x.game(1), 1);
        c.row("nobody", x, -1);
        c.due("all of three DAYS", Checks.of("b1,1;b1,1;b1,1;b1,1;n1,1!").game(3), 3);
    }

    @Says(promise = 0, words = "it wins over one that is not FIRM and of the other side")
    private static void whomShopsWinOver(Checks c) {
        MoreThanHalf x = Checks.of("b1,1!;n1,1!;b1,1;n1,1");
        c.due("SHOP 0", x.picks(0), 2);
        c.due("SHOP 1", x.picks(1), 3);
        x.talk(8);
        c.due("nobody for SHOP 1", x.picks(1), -2);
        MoreThanHalf y = Checks.of("b1,1!;n1,1!;n1,1");
        c.due("nobody for SHOP 0", y.picks(0), -2);
        c.due("the one left for SHOP 1", y.picks(1), 2);
    }

    @Says(promise = 0, words = "They do so in turn, one each, SHOP 1 first, and behind both a DAY goes by.")
    private static void inTurn(Checks c) {
        MoreThanHalf x = Checks.of("n1,5;n1,2");
        c.due("SHOP 0 wins back whom SHOP 1 won", x.market(1), 0);
        c.row("SHOP 0 wins back whom SHOP 1 won", x, 0, 5, 5);
        MoreThanHalf y = Checks.of("n1,5;n1,2;n1,1;0>2*1;1>2*1");
        Checks.rule(y, 0, "i");
        y.talk(1);
        // SHOP 1 wins 1, SHOP 0 wins 1 back; then the DAY: 2 hears 0, one of two.
        c.due("then the DAY", y.market(1), 2);
        c.row("then the DAY", y, 5, 2, 2);
    }

    // ---- the ROW, and what is refused

    @Says(promise = 0, words = "ROW: numbers told last by a call that says so.")
    private static void rowIsToldByCallsThatSaySo(Checks c) {
        MoreThanHalf x = Checks.of(Streets.LINE);
        c.row("at first none", x);
        x.rest();
        x.sign(0);
        x.end(0);
        Checks.street(x, "n1,1;3>0*1;x");
        Checks.street(x, "n1,1;3>0*1");
        x.person(0, 0);
        x.set(0, 0, 50);
        x.hears(0, 1);
        x.sheet(3, 0, 0, 0);
        x.alike();
        x.state(0);
        x.go(2);
        x.talk(2);
        x.behind(0);
        x.fall(1);
        x.otherwise(0, 1);
        Checks.rule(x, 0, "i");
        x.rates(0, 0);
        x.picks(0);
        x.meet(0, 1, 1);
        x.keep(0);
        x.again(0);
        x.count(5);
        x.row(0);
        c.row("these say nothing of the ROW", x, 1, 0, 0);
        x.part(0);
        c.row("a shorter one is the whole ROW", x, 1);
        x.market(0);
        c.row("a longer one", x, x.state(2), 0, 0);
        x.bound();
        x.plan(0, 6);
        c.row("an empty one", x);
    }

    @Says(promise = 0, words = "Rows of numbers are compared from the first on.")
    private static void rowsAreComparedFromTheFirst(Checks c) {
        MoreThanHalf x = Checks.of("n1,1;n1,1;n1,1;n1,1;n1,1;n1,1;0>1*1;0>2*1;1>4*1;2>3*1;4>5*1;3>5*1");
        c.due("1, 4 and 2, 3", x.hops(0, 5), 3);
        c.row("1, 4 is less than 2, 3", x, 1, 4);
        MoreThanHalf y = Checks.of("b50,1!;n50,1;n50,1;n50,1;0>1*1");
        c.due("two pairs", y.change(20), 2);
        c.row("0, 2, 0, 3 is less than 0, 2, 1, 3", y, 0, 2, 0, 3);
    }

    @Says(promise = 0, words = "Refused calls answer NONE, or false, and change nothing but THE TEXT")
    private static void refusedCallsChangeNothing(Checks c) {
        Probe.refused(c, "set(4, 0, 1)", x -> x.set(4, 0, 1));
        Probe.refused(c, "hears(0, 0)", x -> x.hears(0, 0));
        Probe.refused(c, "sheet(4, 2, 1, 1)", x -> x.sheet(4, 2, 1, 1));
        Probe.refused(c, "state(4)", x -> x.state(4));
        Probe.refused(c, "go(201)", x -> x.go(201));
        Probe.refused(c, "talk(16)", x -> x.talk(16));
        Probe.refused(c, "behind(16)", x -> x.behind(16));
        Probe.refused(c, "fall(4)", x -> x.fall(4));
        Probe.refused(c, "otherwise(2, 1)", x -> x.otherwise(2, 1));
        Probe.refused(c, "level(21)", x -> x.level(21));
        Probe.refused(c, "hops(0, 4)", x -> x.hops(0, 4));
        Probe.refused(c, "part(4)", x -> x.part(4));
        Probe.refused(c, "ahead(4)", x -> x.ahead(4));
        Probe.refused(c, "twins(16)", x -> x.twins(16));
        Probe.refused(c, "fewest(16, 1)", x -> x.fewest(16, 1));
        Probe.refused(c, "cheapest(16, 1)", x -> x.cheapest(16, 1));
        Probe.refused(c, "daily(16, 1)", x -> x.daily(16, 1));
        Probe.refused(c, "plan(16, 1)", x -> x.plan(16, 1));
        Probe.refused(c, "guard(16)", x -> x.guard(16));
        Probe.refused(c, "shield(4)", x -> x.shield(4));
        Probe.refused(c, "picks(2)", x -> x.picks(2));
        Probe.refused(c, "market(61)", x -> x.market(61));
        Probe.refused(c, "game(4)", x -> x.game(4));
        Probe.refused(c, "against(7)", x -> x.against(7));
        Probe.refused(c, "change(21)", x -> x.change(21));
        Probe.refused(c, "single(21)", x -> x.single(21));
        Probe.refused(c, "meet(0, 0, 1)", x -> x.meet(0, 0, 1));
        Probe.refused(c, "count(8)", x -> x.count(8));
        Probe.leaves(c, "end(5)", 0, x -> x.end(5) ? 1 : 0);
        Probe.leaves(c, "keep(2)", 0, x -> x.keep(2) ? 1 : 0);
        Probe.leaves(c, "again(2)", 0, x -> x.again(2) ? 1 : 0);
        Probe.throwsNoSuch(c, "person(4, 0)", x -> x.person(4, 0));
        Probe.throwsNoSuch(c, "rates(0, 4)", x -> x.rates(0, 4));
        Probe.throwsNoSuch(c, "row(3)", x -> x.row(3));
    }

    @Says(promise = 0, words = "which a call that reads it empties")
    private static void whoReadsTheTextEmptiesIt(Checks c) {
        MoreThanHalf x = new MoreThanHalf();
        c.due("a street", Checks.street(x, "n1,1"), 1);
        c.due("signs behind it", x.count(6), 0);
        c.due("a RULE", Checks.rule(x, 0, "i+1"), 0);
        c.due("signs behind it", x.count(6), 0);
        Probe.empties(c, "a wrong street", "n1,1;x", -6, MoreThanHalf::street);
        Probe.empties(c, "a wrong RULE", "i+", -3, y -> y.rule(0));
        Probe.empties(c, "a RULE of another SHOP", "i", -100, y -> y.rule(2));
    }
}

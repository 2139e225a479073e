/** Promises 28 to 35: talking round. What is due here was reckoned by hand. */
public final class TalkingPromisesTest {
    private static final Checks CHECKS = new Checks("TalkingPromisesTest");
    // A STATE and the one behind it: 0-0, 1-0, 2-5, 3-5, 4-0, 5-2, 6-5, 7-7.
    private static final String LINE = "b50,3;n50,2;n40,1;0-1*1;1-2*1";
    // 3 hears two quiet ones and a loud one, any two of four are enough.
    private static final String FOUR = "n50,1;n50,1;n50,2;n40,9;0>3*1;1>3*1;2>3*2";

    public static void main(String[] args) {
        fewest();
        cheapest();
        daily();
        plan();
        guard();
        holds();
        shield();
        bound();
        CHECKS.end();
    }

    private static void due(String what, long got, long want) {
        CHECKS.due(what, got, want);
    }

    private static void row(String what, MoreThanHalf x, long... want) {
        CHECKS.row(what, x, want);
    }

    private static void fewest() {
        MoreThanHalf x = Checks.of(LINE);
        due("28: all", x.fewest(7, 20), 2);
        row("28: all", x, 6);
        due("28: 2 on DAY 1", x.fewest(2, 1), 1);
        row("28: itself is the least", x, 2);
        due("28: nobody told", x.fewest(0, 0), 0);
        row("28: nobody told", x, 0);
        due("28: who BELIEVES now", x.fewest(1, 0), 0);
        row("28: who BELIEVES now", x, 0);
        due("28: DAY 0 alone", x.fewest(5, 0), 1);
        row("28: DAY 0 alone", x, 4);
        due("28: a DAY more", x.fewest(5, 1), 1);
        row("28: a DAY more", x, 2);
        x.part(0);
        int[][] wrong = { { 8, 1 }, { -1, 1 }, { 7, 21 }, { 7, -1 } };
        for (int[] w : wrong) {
            due("28: fewest(" + w[0] + ", " + w[1] + ")", x.fewest(w[0], w[1]), -1);
        }
        row("28: refused", x, 1);
        due("28: nothing changed", x.state(0), 1);
        x = Checks.of(FOUR);
        due("28: of as few the least", x.fewest(8, 1), 1);
        row("28: of as few the least", x, 4);
        due("28: at once", x.fewest(8, 0), 1);
        row("28: at once", x, 8);
        MoreThanHalf y = Checks.of("n50,1!;n50,1;0-1*1");
        y.part(0);
        due("28: FIRM", y.fewest(1, 20), -2);
        due("28: FIRM", y.fewest(3, 20), -2);
        row("28: -2 tells nothing", y, 1);
        due("28: not FIRM", y.fewest(2, 20), 1);
        MoreThanHalf z = Checks.of("b50,1;n50,1;n50,1;1>2*1;2>1*1");
        due("28: on one same DAY", z.fewest(6, 20), 2);
        row("28: on one same DAY", z, 6);
        MoreThanHalf far = Checks.of("n50,0;n50,0;n50,0;n50,0;0>1*1;1>2*1;2>3*1");
        due("28: two DAYS are too few", far.fewest(8, 2), 1);
        row("28: two DAYS are too few", far, 2);
        due("28: three DAYS", far.fewest(8, 3), 1);
        row("28: three DAYS", far, 1);
        due("28: all, in three DAYS", far.fewest(15, 3), 1);
        row("28: all, in three DAYS", far, 1);
    }

    private static void cheapest() {
        MoreThanHalf x = Checks.of(FOUR);
        due("29: of equal ones the fewest", x.cheapest(8, 1), 2);
        row("29: of equal ones the fewest", x, 4);
        due("29: at once", x.cheapest(8, 0), 9);
        row("29: at once", x, 8);
        x.set(1, 1, 0);
        due("29: two are cheaper", x.cheapest(8, 1), 1);
        row("29: two are cheaper", x, 3);
        x.set(2, 1, 1);
        due("29: again of equal ones the fewest", x.cheapest(8, 1), 1);
        row("29: again of equal ones the fewest", x, 4);
        x.set(3, 1, 1);
        due("29: then the least", x.cheapest(8, 1), 1);
        row("29: then the least", x, 4);
        due("29: free ones are not talked round for nothing", x.cheapest(0, 1), 0);
        row("29: free ones are not talked round for nothing", x, 0);
        int[][] wrong = { { 16, 1 }, { -1, 1 }, { 7, 21 }, { 7, -1 } };
        for (int[] w : wrong) {
            due("29: cheapest(" + w[0] + ", " + w[1] + ")", x.cheapest(w[0], w[1]), -1);
        }
        row("29: refused", x, 0);
        due("29: FIRM", Checks.of("n50,1!;n50,1;0-1*1").cheapest(1, 20), -2);
        due("29: nothing changed", x.state(0), 0);
    }

    private static void daily() {
        MoreThanHalf x = Checks.of(LINE);
        due("30: all", x.daily(7, 6), 3);
        row("30: all", x, 3, 2);
        due("30: all in 3", x.daily(7, 3), 3);
        row("30: all in 3", x, 3, 2);
        // 1 leads from 3 to 5, and once more from 7 to 7.
        due("30: all in 2", x.daily(7, 2), 4);
        row("30: all in 2", x, 2, 1);
        due("30: all in 1", x.daily(7, 1), -2);
        row("30: -2 tells nothing", x, 2, 1);
        due("30: as it is", x.daily(1, 0), 0);
        row("30: as it is", x, 0, -1);
        due("30: as it is, though there were DAYS", x.daily(1, 6), 0);
        row("30: as it is, though there were DAYS", x, 0, -1);
        due("30: behind a DAY alone", x.daily(4, 0), -2);
        due("30: 2 by 1", x.daily(4, 1), 2);
        row("30: 2 by 1", x, 1, 1);
        due("30: 2 talked round a DAY ahead does not BELIEVE", x.daily(4, 2), 1);
        row("30: but two DAYS later, through 1", x, 2, 2);
        int[][] wrong = { { 8, 1 }, { -1, 1 }, { 7, 7 }, { 7, -1 } };
        for (int[] w : wrong) {
            due("30: daily(" + w[0] + ", " + w[1] + ")", x.daily(w[0], w[1]), -1);
        }
        row("30: refused", x, 2, 2);
        due("30: nothing changed", x.state(0) * 10 + x.count(1), 10);
        MoreThanHalf y = Checks.of("n50,0;n50,0;n50,5");
        due("30: free, but two DAYS", y.daily(3, 6), 0);
        row("30: free, but two DAYS", y, 2, 0);
        due("30: three", y.daily(7, 6), 5);
        row("30: three", y, 3, 0);
        MoreThanHalf z = Checks.of("b50,1!;n50,7;n50,1;0>1*1;1>2*1");
        due("30: nobody, if one waits", z.daily(6, 6), 0);
        row("30: nobody, if one waits", z, 2, -1);
        due("30: if there is no time", z.daily(6, 1), 7);
        row("30: if there is no time", z, 1, 1);
    }

    private static void plan() {
        MoreThanHalf x = Checks.of(LINE);
        due("31: all", x.plan(7, 6), 3);
        row("31: all", x, 2, -1, 1);
        due("31: as it is", x.plan(1, 6), 0);
        row("31: as it is", x);
        due("31: 2 by 1", x.plan(4, 1), 1);
        row("31: 2 by 1", x, 1);
        due("31: 2 in two DAYS", x.plan(4, 6), 2);
        row("31: 2 in two DAYS", x, 2, -1);
        due("31: not in one", x.plan(7, 1), -2);
        int[][] wrong = { { 8, 1 }, { -1, 1 }, { 7, 7 }, { 7, -1 } };
        for (int[] w : wrong) {
            due("31: plan(" + w[0] + ", " + w[1] + ")", x.plan(w[0], w[1]), -1);
        }
        row("31: refused, and -2", x, 2, -1);
        due("31: all in two", x.plan(7, 2), 2);
        row("31: all in two", x, 1, 1);
        MoreThanHalf y = Checks.of("n50,0;n50,0;n50,5");
        due("31: the first ones first", y.plan(7, 6), 3);
        row("31: the first ones first", y, 0, 1, 2);
        MoreThanHalf z = Checks.of("b50,1!;n50,7;n50,1;0>1*1;1>2*1");
        due("31: nobody", z.plan(6, 6), 2);
        row("31: nobody", z, -1, -1);
        MoreThanHalf six = Checks.of("n1,1;n1,1;n1,1;n1,1;n1,1;n1,1;n1,1");
        due("31: six DAYS", six.plan(63, 6), 6);
        row("31: six DAYS", six, 0, 1, 2, 3, 4, 5);
        due("31: seven are too many", six.plan(127, 6), -2);
    }

    private static void guard() {
        MoreThanHalf x = Checks.of(LINE, "n1,1!;b1,1!");
        due("32: all told BELIEVE", x.guard(1), -2);
        due("32: one is enough", x.guard(7), 1);
        row("32: one is enough", x, 2);
        due("32: the other one", x.guard(5), 1);
        row("32: the other one", x, 4);
        due("32: FIRM against", x.guard(15), 0);
        row("32: FIRM against", x, 0);
        due("32: FIRM, and BELIEVES", x.guard(17), -2);
        due("32: nobody told", x.guard(0), -2);
        due("32: none such", x.guard(32), -1);
        due("32: none such", x.guard(-1), -1);
        row("32: refused, and -2", x, 0);
        due("32: nothing changed", x.count(3), 24);
    }

    private static void holds() {
        MoreThanHalf x = Checks.of(LINE);
        due("33: holds()", x.holds(), 2);
        row("33: holds()", x, 6);
        x.talk(4);
        // 1 alone hears 0 and 2: both can BELIEVE.
        due("33: no more", x.holds(), 0);
        row("33: no more", x, 0);
        MoreThanHalf y = Checks.of("n50,1!;n50,1;n50,1;n50,1;0-1*1;1-2*1");
        due("33: a FIRM one that does not BELIEVE helps, an unhearing one holds", y.holds(), 3);
        row("33: a FIRM one that does not BELIEVE helps", y, 14);
        MoreThanHalf z = Checks.of("b50,1!;n49,1;n50,1;0-1*1;1-2*1");
        due("33: a FIRM one that BELIEVES", z.holds(), 0);
        z.set(1, 0, 50);
        due("33: is not more than half", z.holds(), 2);
        row("33: is not more than half", z, 6);
    }

    private static void shield() {
        MoreThanHalf x = Checks.of("n60,1;n60,1;n60,1;n10,1;n99,1;0-1*4;1-2*4;0-2*4;3>4*1");
        due("34: a triangle of two", x.shield(2), 2);
        row("34: of as few the least", x, 5);
        due("34: a triangle of two", x.shield(0), 2);
        row("34: of as few the least", x, 3);
        due("34: unhearing", x.shield(3), 1);
        row("34: unhearing", x, 8);
        due("34: with the one it hears", x.shield(4), 2);
        row("34: with the one it hears", x, 24);
        due("34: none such", x.shield(5), -1);
        due("34: none such", x.shield(-1), -1);
        x.talk(8);
        due("34: the one it hears BELIEVES", x.shield(4), -2);
        due("34: who BELIEVES", x.shield(3), -2);
        row("34: -2 tells nothing", x, 24);
        due("34: FIRM", Checks.of("n60,1!").shield(0), -2);
        MoreThanHalf ring = Checks.of("n1,1;n1,1;n1,1;n1,1;n1,1;n1,1;n1,1;n1,1;n1,1;n1,1;n1,1;n1,1;n1,1;n1,1");
        for (int i = 0; i < 14; i++) {
            Checks.street(ring, i + ">" + (i + 1) % 14 + "*1");
        }
        due("34: all 14", ring.shield(7), 14);
        row("34: all 14", ring, 16383);
        due("34: all 14 hold", ring.holds(), 14);
        due("34: one bound", ring.bound(), 1);
        row("34: one bound", ring, 16383);
    }

    private static void bound() {
        MoreThanHalf x = Checks.of("n60,1;n60,1;n60,1;n10,1;n99,1;0-1*4;1-2*4;0-2*4;3>4*1");
        // 3 by itself; then two of the triangle; what is left (2, 4) does not hold.
        due("35: bound()", x.bound(), 2);
        row("35: bound()", x, 8, 3);
        MoreThanHalf y = Checks.of("n60,1;n60,1;n60,1;n60,1;0-3*4;1-2*4");
        due("35: two pairs", y.bound(), 2);
        row("35: the least first", y, 6, 9);
        MoreThanHalf z = Checks.of("b60,1;b60,1;0-1*1");
        due("35: none", z.bound(), 0);
        row("35: none", z);
        MoreThanHalf w = Checks.of("n1,1;n1,1;n1,1;n1,1;n1,1;n1,1;n1,1;n1,1;n1,1;n1,1;n1,1;n1,1;n1,1;n1,1");
        due("35: 14 by themselves", w.bound(), 14);
        for (int i = 0; i < 14; i++) {
            due("35: 14 by themselves", w.row(i), 1 << i);
        }
    }
}

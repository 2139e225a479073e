/** Promises 10 to 27: days, and days ahead. What is due here was reckoned by hand. */
public final class DaysPromisesTest {
    private static final Checks CHECKS = new Checks("DaysPromisesTest");
    // A STATE and the one behind it: 0-0, 1-0, 2-5, 3-5, 4-0, 5-2, 6-5, 7-7.
    private static final String LINE = "b50,3;n50,2;n40,1;0-1*1;1-2*1";
    // 0 is FIRM: 1-1, 3-5, 5-3, 7-7.
    private static final String FIRM_LINE = "b50,3!;n50,2;n40,1;0-1*1;1-2*1";
    // Each hears the next one, the last one the first.
    private static final String RING = "b50,1;n50,1;n50,1;1>0*1;2>1*1;0>2*1";

    public static void main(String[] args) {
        state();
        go();
        talk();
        behind();
        rest();
        fall();
        falls();
        swings();
        otherwise();
        onebyone();
        level();
        hops();
        part();
        ahead();
        twins();
        first();
        last();
        fates();
        CHECKS.end();
    }

    private static void due(String what, long got, long want) {
        CHECKS.due(what, got, want);
    }

    private static void row(String what, MoreThanHalf x, long... want) {
        CHECKS.row(what, x, want);
    }

    private static MoreThanHalf lineAt(int more) {
        MoreThanHalf x = Checks.of(LINE);
        x.talk(more);
        return x;
    }

    private static void state() {
        MoreThanHalf x = lineAt(2);
        x.go(3);
        int[] states = { 3, 5, 2, 5 };
        for (int day = 0; day < 4; day++) {
            due("10: state(" + day + ")", x.state(day), states[day]);
        }
        due("10: state(4)", x.state(4), -1);
        due("10: state(-1)", x.state(-1), -1);
    }

    private static void go() {
        MoreThanHalf x = lineAt(4);
        due("11: go(0)", x.go(0), 5);
        due("11: go(1)", x.go(1), 2);
        due("11: go(2)", x.go(2), 2);
        due("11: DAYS", x.count(1), 3);
        due("11: go(201)", x.go(201), -1);
        due("11: go(-1)", x.go(-1), -1);
        due("11: DAYS as they were", x.count(1), 3);
        due("11: to 200 in all at most", x.go(200), 5);
        due("11: 200 DAYS", x.count(1), 200);
        due("11: no DAY more", x.go(1), 5);
        due("11: no DAY more", x.count(1), 200);
        MoreThanHalf y = lineAt(4);
        due("11: go(200)", y.go(200), 5);
        due("11: 200 DAYS at once", y.count(1), 200);
        due("11: the ROW is left alone", y.count(5), 0);
    }

    private static void talk() {
        MoreThanHalf x = Checks.of(LINE, "n1,9!");
        int[] wrong = { 1, 3, 8, 16, -1, Integer.MIN_VALUE, Integer.MAX_VALUE };
        for (int people : wrong) {
            due("12: talk(" + people + ")", x.talk(people), -1);
        }
        due("12: nothing changed", x.state(0), 1);
        due("12: nobody", x.talk(0), 0);
        due("12: two", x.talk(6), 3);
        due("12: no DAY goes by", x.count(1), 0);
        due("12: they BELIEVE now", x.state(0), 7);
        due("12: no more", x.talk(2), -1);
        MoreThanHalf y = lineAt(4);
        y.go(1);
        due("12: on a later DAY", y.talk(1), 3);
        due("12: the DAY ahead is as it was", y.state(0) * 10 + y.state(1), 53);
    }

    private static void behind() {
        MoreThanHalf x = Checks.of(LINE);
        int[] then = { 0, 0, 5, 5, 0, 2, 5, 7 };
        for (int s = 0; s < 8; s++) {
            due("13: behind(" + s + ")", x.behind(s), then[s]);
        }
        due("13: behind(8)", x.behind(8), -1);
        due("13: behind(-1)", x.behind(-1), -1);
        MoreThanHalf y = Checks.of("b50,1!;n50,1;n10,1;0-1*1");
        due("13: FIRM and unhearing ones stay", y.behind(4), 4);
        due("13: FIRM and unhearing ones stay", y.behind(5), 7);
        due("13: FIRM and unhearing ones stay", y.behind(2), 0);
        MoreThanHalf z = Checks.of("n0,1;n99,1;n33,1;1>0*9;2>0*1;0>1*9;2>1*9;0>2*2;1>2*4");
        due("13: NEED 0 is above nothing", z.behind(4) & 1, 1);
        due("13: nobody", z.behind(0), 0);
        due("13: NEED 99 wants all", z.behind(5) & 2, 2);
        due("13: NEED 99 wants all", z.behind(1) & 2, 0);
        due("13: 200 is above 33 * 6", z.behind(1) & 4, 4);
        z.set(2, 0, 34);
        due("13: 200 is not above 34 * 6", z.behind(1) & 4, 0);
    }

    private static void rest() {
        MoreThanHalf x = lineAt(2);
        due("14: from 3", x.rest(), 1);
        row("14: from 3", x, 2, 5, 2);
        due("14: nothing changed", x.state(0), 3);
        x = Checks.of(LINE);
        due("14: from 1", x.rest(), 1);
        row("14: from 1", x, 1, 0, 0);
        x = Checks.of(RING);
        due("14: ring", x.rest(), 0);
        row("14: ring", x, 3, 1, 1);
        x.talk(2);
        x.go(2);
        due("14: ring, two", x.rest(), 0);
        row("14: ring, two", x, 3, x.state(2), 3);
        MoreThanHalf y = Checks.of("b50,0!;n50,0;n50,0;n50,0;0>1*1;1>2*1;2>3*1");
        due("14: a chain", y.rest(), 3);
        row("14: a chain", y, 1, 15, 15);
    }

    private static void fall() {
        MoreThanHalf x = lineAt(2);
        x.go(3);
        due("15: fall(1)", x.fall(1), 84);
        due("15: fall(2)", x.fall(2), -17);
        due("15: fall(3)", x.fall(3), -17);
        due("15: fall(0)", x.fall(0), -1);
        due("15: fall(4)", x.fall(4), -1);
        due("15: fall(-1)", x.fall(-1), -1);
        MoreThanHalf y = Checks.of("b50,1!;n50,1;b10,1;0-1*3;2>0*2");
        y.go(1);
        due("15: STATES", y.state(0) * 10 + y.state(1), 57);
        // Of 1 (2 * 50 * 3 + 1), once; pairs: 0 hears 2 (2), 1 hears 0 (3); 2 hears nobody, 0 is FIRM.
        due("15: FIRM and unhearing ones", y.fall(1), 301 - 200 * 5);
    }

    private static void falls() {
        MoreThanHalf x = lineAt(2);
        due("16: no DAY", x.falls(), 0);
        row("16: no DAY", x, -1, -1);
        x.go(1);
        due("16: one DAY", x.falls(), 0);
        row("16: one DAY", x, -1, -1);
        x.go(1);
        due("16: two DAYS", x.falls(), 101);
        row("16: two DAYS", x, -1, -1);
        x.go(1);
        due("16: three DAYS", x.falls(), 101);
        row("16: three DAYS", x, 3, -1);
        MoreThanHalf y = Checks.of(LINE);
        y.go(2);
        y.talk(6);
        due("16: STATES", y.state(0) * 100 + y.state(1) * 10 + y.state(2), 106);
        due("16: more", y.falls(), 101 - (201 + 81));
        row("16: more", y, 2, 2);
    }

    private static void swings() {
        MoreThanHalf x = lineAt(2);
        due("17: all", x.swings(), 7);
        row("17: all", x, 0);
        x = lineAt(6);
        due("17: nobody", x.swings(), 0);
        row("17: nobody", x, 7);
        x = Checks.of(FIRM_LINE);
        x.talk(2);
        due("17: but the FIRM one", x.swings(), 6);
        row("17: but the FIRM one", x, 1);
    }

    private static void otherwise() {
        MoreThanHalf x = Checks.of(LINE);
        due("18: now", x.otherwise(1, 0), 2);
        due("18: a DAY", x.otherwise(1, 1), 5);
        due("18: two DAYS", x.otherwise(1, 2), 2);
        due("18: 200 DAYS", x.otherwise(1, 200), 2);
        due("18: one that BELIEVES", x.otherwise(0, 1), 0);
        due("18: 201", x.otherwise(1, 201), -1);
        due("18: -1", x.otherwise(1, -1), -1);
        due("18: none such", x.otherwise(3, 1), -1);
        due("18: none such", x.otherwise(-1, 1), -1);
        due("18: FIRM", Checks.of(FIRM_LINE).otherwise(0, 1), -1);
        due("18: nothing changed", x.state(0), 1);
    }

    private static void onebyone() {
        MoreThanHalf x = lineAt(2);
        // 0 stays, 1 hears 0 alone of two and stops, 2 stays; then 0 stops.
        due("19: two rounds", x.onebyone(), 2);
        row("19: two rounds", x, 0, 2);
        due("19: nothing changed", x.state(0), 3);
        x = lineAt(4);
        // 0 stops, so that 1 does not begin, and 2 stops.
        due("19: one", x.onebyone(), 1);
        row("19: one", x, 0, 2);
        x = lineAt(6);
        due("19: none", x.onebyone(), 0);
        row("19: none", x, 7, 0);
        MoreThanHalf y = Checks.of("n0,0;b0,0;n0,0;1>0*1;2>1*1;0>2*1");
        y.part(0);
        due("19: never", y.onebyone(), -2);
        row("19: never tells nothing", y, 1);
    }

    private static void level() {
        MoreThanHalf x = Checks.of("b50,1!;n77,1;n66,1;0-1*1;1-2*1");
        due("20: level(0)", x.level(0), -2);
        due("20: level(1)", x.level(1), -2);
        due("20: level(2)", x.level(2), 49);
        row("20: level(2)", x, 2);
        due("20: level(20)", x.level(20), 49);
        row("20: level(20)", x, 2);
        due("20: level(21)", x.level(21), -1);
        due("20: level(-1)", x.level(-1), -1);
        row("20: refused", x, 2);
        due("20: nothing changed", x.person(1, 1), 77);
        x.talk(6);
        due("20: now", x.level(0), 99);
        row("20: now", x, 0);
        MoreThanHalf y = Checks.of("b50,1!;n50,1;0>1*1");
        due("20: 99", y.level(1), 99);
        row("20: 99", y, 1);
        MoreThanHalf even = Checks.of("b50,1!;n50,1;n50,1;0>1*1;2>1*3;0>2*1");
        due("20: 100 is above 24 * 4, not above 25 * 4", even.level(1), 24);
        row("20: 100 is above 24 * 4, not above 25 * 4", even, 1);
        due("20: with a DAY more", even.level(2), 99);
        row("20: with a DAY more", even, 2);
        MoreThanHalf z = Checks.of("b50,1!;n50,1;n50,1!;0>1*9;2>1*9");
        due("20: one FIRM against", z.level(20), -2);
        MoreThanHalf w = Checks.of("b50,1;n50,1;n1,1;0>1*1;2>1*9;1>0*9;2>0*1;0>2*1;1>2*9");
        due("20: on one same DAY", w.level(20), 9);
        MoreThanHalf v = Checks.of("b50,1!;n50,1;n5,1;0-1*1;1>2*1;2>1*9;n5,1;3>1*9;1>3*1;n5,1;4>1*9;1>4*9");
        due("20: 100 is not above 4 * 28 but above 3 * 28", v.level(20), 3);
    }

    private static void hops() {
        MoreThanHalf x = Checks.of("n0,0;n0,0;n0,0;n0,0;n0,0;0>1*1;0>2*9;1>3*1;2>3*9;3-4*1");
        due("21: hops(0, 3)", x.hops(0, 3), 2);
        row("21: hops(0, 3)", x, 1);
        due("21: hops(0, 4)", x.hops(0, 4), 3);
        row("21: hops(0, 4)", x, 1, 3);
        due("21: hops(4, 0)", x.hops(4, 0), -2);
        row("21: never tells nothing", x, 1, 3);
        due("21: hops(4, 3)", x.hops(4, 3), 1);
        row("21: hops(4, 3)", x);
        due("21: hops(3, 1)", x.hops(3, 1), -2);
        x.meet(0, 4, 1);
        due("21: shorter", x.hops(0, 3), 2);
        row("21: of as few the least", x, 1);
        x.meet(0, 1, 0);
        due("21: another way", x.hops(0, 3), 2);
        row("21: another way", x, 2);
        due("21: the same", x.hops(2, 2), 0);
        row("21: the same", x);
        due("21: none such", x.hops(5, 0), -1);
        due("21: none such", x.hops(0, 5), -1);
        due("21: none such", x.hops(-1, -1), -1);
        MoreThanHalf y = Checks.of("n0,0;n0,0;n0,0;n0,0;n0,0;n0,0;0>1*1;0>4*1;1>5*1;4>2*1;5>3*1;2>3*1");
        due("21: the least row as it goes", y.hops(0, 3), 3);
        row("21: the least row as it goes", y, 1, 5);
    }

    private static void part() {
        MoreThanHalf x = Checks.of("n0,0;n0,0;n0,0;n0,0;n0,0;0>2*1;3>2*1");
        due("22: by hearing, either way", x.part(0), 13);
        row("22: parts", x, 3);
        due("22: alone", x.part(4), 16);
        row("22: parts", x, 3);
        x.meet(1, 4, 1);
        due("22: two", x.part(4), 18);
        row("22: parts", x, 2);
        due("22: none such", x.part(5), -1);
        due("22: none such", x.part(-1), -1);
        row("22: refused", x, 2);
    }

    private static void ahead() {
        MoreThanHalf x = lineAt(4);
        due("23: ahead(1) of 5", x.ahead(1), 3);
        row("23: ahead(1) of 5", x, 2);
        due("23: ahead(2) of 5", x.ahead(2), 1);
        row("23: ahead(2) of 5", x, 5);
        due("23: ahead(3) of 5", x.ahead(3), 3);
        row("23: ahead(3) of 5", x, 2);
        due("23: ahead(0)", x.ahead(0), -1);
        due("23: ahead(4)", x.ahead(4), -1);
        row("23: refused", x, 2);
        x = Checks.of(LINE);
        due("23: none leads to 1", x.ahead(1), 0);
        row("23: none leads to 1", x);
        x = Checks.of(FIRM_LINE);
        due("23: FIRM as they are", x.ahead(1), 1);
        row("23: FIRM as they are", x, 1);
    }

    private static void twins() {
        MoreThanHalf x = Checks.of(LINE);
        due("24: twins(2)", x.twins(2), 2);
        row("24: twins(2)", x, 3, 1);
        due("24: twins(3)", x.twins(3), 2);
        row("24: twins(3)", x, 2, 1);
        due("24: twins(1)", x.twins(1), 2);
        row("24: twins(1)", x, 0, 1);
        due("24: twins(7)", x.twins(7), 0);
        row("24: twins(7)", x);
        x.rest();
        due("24: twins(8)", x.twins(8), -1);
        due("24: twins(-1)", x.twins(-1), -1);
        due("24: refused", x.count(5), 3);
        MoreThanHalf y = Checks.of("n50,1;n50,1;n0,1;n50,1;2>0*1;3>1*1;0>2*1;1>2*1;0>3*1;1>3*1");
        due("24: two otherwise", y.twins(1), 1);
        row("24: two otherwise", y, 2, 2);
        MoreThanHalf z = Checks.of("b50,1!;n50,1;0>1*1");
        due("24: FIRM as in it", z.twins(2), 1);
        row("24: FIRM as in it", z, 0, 1);
        due("24: FIRM as in it", z.twins(3), 1);
        row("24: FIRM as in it", z, 1, 1);
    }

    private static void first() {
        MoreThanHalf x = Checks.of(LINE);
        due("25: first()", x.first(), 4);
        row("25: first()", x, 1);
        x = Checks.of(FIRM_LINE);
        due("25: to each one leads", x.first(), 0);
        row("25: to each one leads", x);
        x = Checks.of("b50,1!;n50,1;0>1*1");
        due("25: FIRM as they are", x.first(), 1);
        row("25: FIRM as they are", x, 1);
    }

    private static void last() {
        MoreThanHalf x = Checks.of(LINE);
        due("26: last()", x.last(), 4);
        row("26: last()", x, 2, 2);
        x = Checks.of(RING);
        due("26: ring", x.last(), 8);
        row("26: ring", x, 2, 3);
        x = Checks.of(FIRM_LINE);
        due("26: FIRM as they are", x.last(), 4);
        row("26: FIRM as they are", x, 2, 2);
        x = Checks.of("b50,1!;n50,1;0>1*1");
        due("26: one", x.last(), 1);
        row("26: one", x, 1, 1);
    }

    private static void fates() {
        MoreThanHalf x = Checks.of(LINE);
        due("27: fates()", x.fates(), 1);
        row("27: fates()", x, 3);
        x = Checks.of(FIRM_LINE);
        due("27: FIRM as they are", x.fates(), 1);
        row("27: FIRM as they are", x, 0);
        x = Checks.of("n50,1!;n50,1;0>1*1");
        due("27: one FIRM against", x.fates(), 0);
        row("27: one FIRM against", x, 2);
    }
}

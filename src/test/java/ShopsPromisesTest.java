/** Promises 36 to 48: two shops, acquaintances, and what is kept. What is due here was reckoned by hand. */
public final class ShopsPromisesTest {
    private static final Checks CHECKS = new Checks("ShopsPromisesTest");
    // A STATE and the one behind it: 0-0, 1-0, 2-5, 3-5, 4-0, 5-2, 6-5, 7-7.
    private static final String LINE = "b50,3;n50,2;n40,1;0-1*1;1-2*1";

    public static void main(String[] args) {
        rule();
        ruleErrors();
        rates();
        picks();
        market();
        game();
        against();
        change();
        single();
        meet();
        keep();
        again();
        count();
        row();
        CHECKS.end();
    }

    private static void due(String what, long got, long want) {
        CHECKS.due(what, got, want);
    }

    private static void row(String what, MoreThanHalf x, long... want) {
        CHECKS.row(what, x, want);
    }

    private static void rule() {
        MoreThanHalf x = Checks.of(LINE);
        due("36: RULE 1", Checks.rule(x, 1, "i"), 0);
        due("36: told", x.count(4), 2);
        due("36: RULE 0", Checks.rule(x, 0, "1+2"), 0);
        due("36: told", x.count(4), 3);
        due("36: none", x.rule(1), 0);
        due("36: told", x.count(4), 1);
        due("36: none is 0", x.rates(1, 2), 0);
        due("36: no such RULE, asked first", Checks.rule(x, 2, "("), -100);
        due("36: THE TEXT is read", x.count(6), 0);
        due("36: no such RULE", Checks.rule(x, -1, ""), -100);
        String forty = "1+2+3+4+5+6+7+8+9+1+2+3+4+5+6+7+8+9+1+23";
        due("36: 40 signs", forty.length(), 40);
        due("36: 40 signs", Checks.rule(x, 0, forty), 0);
        due("36: 40 signs", x.rates(0, 0), 114);
        due("36: 41 signs", Checks.rule(x, 0, forty + "4"), -41);
        due("36: 41 signs", Checks.rule(x, 0, forty + "x"), -41);
        due("36: 40 that would go on", Checks.rule(x, 0, forty.substring(0, 39) + "+1"), -41);
        due("36: 40 that end too early", Checks.rule(x, 0, forty.substring(0, 39) + "+"), -41);
        due("36: a wrong sign at 39", Checks.rule(x, 0, forty.substring(0, 39) + "i1"), -40);
        due("36: 80 signs", Checks.rule(x, 0, forty + forty), -41);
        due("36: a refused one changes nothing", x.rates(0, 0), 114);
    }

    private static void ruleErrors() {
        String[] wrong = { "x", "+", "*", ")", "i)", "i(", "ii", "i1", "1i", "1000", "i+", "i-", "i*+", "i<", "i<n<p", "i=n>p", "<i",
            "(", "()", "(i", "(i<n<p)", "(((((i", "i+-", "--", "1<-", "(i))", "s s", "I", "((i)", "i<n=(p)", "i+*n" };
        int[] at = { 0, 0, 0, 0, 1, 1, 1, 1, 1, 3, 2, 2, 2, 2, 3, 3, 0,
            1, 1, 2, 4, 4, 3, 2, 3, 3, 1, 0, 4, 3, 2 };
        for (int k = 0; k < wrong.length; k++) {
            due("36: " + wrong[k], Checks.rule(new MoreThanHalf(), k % 2, wrong[k]), -1 - at[k]);
        }
        String[] right = { "((((i))))", "---i", "i--n", "i*-n", "(i<n)<p", "(i=n)=(p<a)", "123", "007", "-(-(-(-1)))", "i<n+p*s/o-d" };
        for (String rule : right) {
            due("36: " + rule, Checks.rule(new MoreThanHalf(), 0, rule), 0);
        }
    }

    private static void value(String rule, int due) {
        MoreThanHalf x = Checks.of("b50,3;n33,7;b0,0!;n1,1;1>0*4;3>0*2;0>1*5;2>1*3;0>3*9");
        due("37: rule " + rule, Checks.rule(x, 1, rule), 0);
        due("37: " + rule, x.rates(1, 1), due);
    }

    private static void rates() {
        value("i", 1);
        value("n", 33);
        value("p", 7);
        value("a", 8);
        value("s", 8);
        value("o", 4);
        value("d", 1);
        value("7-2-1", 4);
        value("7-(2-1)", 6);
        value("100/7/2", 7);
        value("100/(7/2)", 33);
        value("2+3*4", 14);
        value("(2+3)*4", 20);
        value("2*3+4<11", 1);
        value("10<2*3+4", 0);
        value("3>2", 1);
        value("2>3", 0);
        value("2>2", 0);
        value("2<2", 0);
        value("2=2", 1);
        value("2=3", 0);
        value("(2=2)+1", 2);
        value("-7/2", -3);
        value("7/-2", -3);
        value("7/0", 0);
        value("7/(n-33)+1", 1);
        value("--7", 7);
        value("---7", -7);
        value("2--7", 9);
        value("-2*-3", 6);
        value("0-7/2*2", -6);
        value("2<3-2", 0);
        value("999*999*999*999", (int) (999L * 999 * 999 * 999));
        value("999*999*999*999/7", (int) (999L * 999 * 999 * 999) / 7);
        MoreThanHalf x = Checks.of("b50,3;n33,7;b0,0!;n1,1;1>0*4;3>0*2;0>1*5;2>1*3;0>3*9");
        Checks.rule(x, 0, "s");
        Checks.rule(x, 1, "s");
        due("37: of SHOP 0's side", x.rates(0, 0), 6);
        due("37: of SHOP 1's side", x.rates(1, 0), 0);
        due("37: of SHOP 0's side", x.rates(0, 1), 0);
        due("37: of SHOP 1's side", x.rates(1, 1), 8);
        x.talk(2);
        due("37: now", x.rates(1, 0), 4);
        Checks.rule(x, 0, "o*10+d");
        due("37: how loud, how many hear it", x.rates(0, 0), 14 * 10 + 2);
        due("37: how loud, how many hear it", x.rates(0, 2), 31);
        CHECKS.throwsNoSuch("37: rates(2, 0)", () -> x.rates(2, 0));
        CHECKS.throwsNoSuch("37: rates(-1, 0)", () -> x.rates(-1, 0));
        CHECKS.throwsNoSuch("37: rates(0, 4)", () -> x.rates(0, 4));
        CHECKS.throwsNoSuch("37: rates(0, -1)", () -> x.rates(0, -1));
    }

    private static void picks() {
        MoreThanHalf x = Checks.of("b1,1;n1,4;b1,3!;n1,5!;n1,4;n1,2;b1,2");
        due("38: none: the first", x.picks(1), 1);
        due("38: none: the first", x.picks(0), 0);
        Checks.rule(x, 0, "p");
        Checks.rule(x, 1, "p");
        due("38: the greatest it can", x.picks(0), 6);
        due("38: of equal ones the first", x.picks(1), 1);
        Checks.rule(x, 1, "0-p");
        due("38: below 0", x.picks(1), 5);
        due("38: another SHOP", x.picks(2), -1);
        due("38: another SHOP", x.picks(-1), -1);
        x.talk(2 + 16 + 32);
        due("38: nobody", x.picks(1), -2);
    }

    private static void market() {
        MoreThanHalf x = Checks.of(LINE);
        Checks.rule(x, 0, "i");
        Checks.rule(x, 1, "i");
        due("39: market(0)", x.market(0), 1);
        row("39: market(0)", x, 1, 0, 0);
        // SHOP 1 wins 2 (5), SHOP 0 wins 2 (1), then 0.
        due("39: market(1)", x.market(1), 0);
        row("39: market(1)", x, 0, 1, 1);
        due("39: market(60)", x.market(60), 0);
        row("39: market(60)", x, 0, 60, 60);
        Checks.rule(x, 0, "0-i");
        Checks.rule(x, 1, "0-i");
        // SHOP 1 wins 1 (3), SHOP 0 wins 0 (2), then 5; SHOP 1 wins 1 (7), SHOP 0 wins 0 (6), then 5.
        due("39: market(2)", x.market(2), 2);
        row("39: market(2)", x, 5, 6, 4);
        x.talk(6);
        due("39: nobody for SHOP 1", x.market(1), 2);
        row("39: nobody for SHOP 1", x, 5, 3, 0);
        due("39: 61", x.market(61), -1);
        due("39: -1", x.market(-1), -1);
        row("39: refused", x, 5, 3, 0);
        due("39: nothing changed", x.state(0) * 10 + x.count(1), 70);
        MoreThanHalf y = Checks.of("n1,1;n1,2");
        y.market(1);
        row("39: SHOP 1 first", y, 0, 1, 1);
    }

    private static void game() {
        // What one wins, the other one wins back; with nobody to hear, none of them gets farther.
        MoreThanHalf even = Checks.of("b1,1;n1,1;n1,1;b1,1");
        for (int n = 1; n <= 3; n++) {
            due("40: even, " + n, even.game(n), 2);
            row("40: even, " + n, even, 1);
        }
        // 1 BELIEVES behind each DAY, 2 if 1 did: SHOP 0 wins 1 back each time, so SHOP 1 can't have 2.
        MoreThanHalf chain = Checks.of("b1,1!;n1,1;n1,1;0>1*1;1>2*1");
        for (int n = 1; n <= 3; n++) {
            due("40: chain, " + n, chain.game(n), 2);
            row("40: chain, " + n, chain, -1);
        }
        MoreThanHalf x = Checks.of("n50,1;n50,2;n50,3!");
        due("40: game(0)", x.game(0), 0);
        row("40: game(0)", x, -1);
        // Whomever SHOP 1 wins, SHOP 0 wins back.
        due("40: game(1)", x.game(1), 0);
        row("40: nobody, if it is as well", x, -1);
        MoreThanHalf y = Checks.of("b50,1!;n50,2;n50,3;n60,3;0>1*1;0>2*1;1>3*1;2>3*1");
        // 1 and 2 BELIEVE by themselves behind a DAY; 3 wants both of them: SHOP 0 wins one of them on DAY 2.
        due("40: game(1)", y.game(1), 3);
        row("40: game(1)", y, -1);
        due("40: game(2)", y.game(2), 3);
        row("40: game(2)", y, -1);
        MoreThanHalf z = Checks.of("n0,1;n0,1;n0,1;0-1*1;1-2*1;0-2*1");
        // One alone is won back, but behind two DAYS, too.
        due("40: game(3)", z.game(3), 0);
        row("40: game(3)", z, -1);
        MoreThanHalf w = Checks.of("b50,1!;n50,1!;n50,1;n50,1;n50,1;1>2*1;2>3*1;2>4*1");
        w.talk(8);
        due("40: both can win", w.game(1), 1);
        w = Checks.of("b0,1;b0,1;n0,1;0-1*1;1-2*1;0-2*1");
        // SHOP 1 keeps two of three whatever SHOP 0 does, and all three hear one of two.
        due("40: all", w.game(1), 3);
        row("40: it must win the third", w, 2);
        due("40: 4", w.game(4), -1);
        due("40: -1", w.game(-1), -1);
        row("40: refused", w, 2);
        MoreThanHalf v = Checks.of("b50,1;n50,1;n50,1;n50,1;0-1*1;1-2*1;0-2*1;0>3*1;1>3*1;2>3*1");
        // With two of 0, 1, 2 SHOP 0 wins one back; 3 is no help: one of 0, 1, 2 is none of two behind the DAY.
        due("40: won back", v.game(1), 0);
        row("40: won back", v, -1);
        MoreThanHalf u = Checks.of("b50,1!;b50,1!;n50,1;n70,1;0>2*1;1>2*1;0>3*1;1>3*1;2>3*1");
        // 2 BELIEVES behind the DAY whatever SHOP 0 does; 3 hears 2, whom SHOP 0 wins back.
        due("40: whom SHOP 0 wins back", u.game(1), 3);
        MoreThanHalf t = Checks.of("n50,1;n50,1;n0,1;0>2*1;1>2*1");
        t.talk(1);
        // 1 as well, then SHOP 0 can't keep 2 from hearing one of them: 2 BELIEVES, and one of 0, 1 stays.
        due("40: a second one", t.game(1), 2);
        row("40: a second one", t, 1);
    }

    private static void against() {
        // Nobody hears anybody: each DAY SHOP 0 wins the first one who BELIEVES, so that SHOP 1 wins later ones.
        MoreThanHalf late = Checks.of("b1,1;n1,1;n1,1;b1,1");
        for (int n = 1; n <= 6; n++) {
            due("41: as many as there were, " + n, late.against(n), 2);
            row("41: as many as there were, " + n, late, 1);
        }
        // 1 and 2 hear one that BELIEVES for ever, but SHOP 0 wins the last one each DAY ahead of it: they come again.
        MoreThanHalf again = Checks.of("b1,1!;n1,1;n1,1;0>1*1;0>2*1");
        Checks.rule(again, 0, "i");
        for (int n = 1; n <= 6; n++) {
            due("41: they come again, " + n, again.against(n), 3);
            row("41: they come again, " + n, again, -1);
        }
        MoreThanHalf x = Checks.of("n50,1;n50,2;n50,3");
        due("41: against(0)", x.against(0), 0);
        row("41: against(0)", x, -1);
        // SHOP 0 has no RULE: it wins the first one back, whoever it is.
        due("41: against(1)", x.against(1), 0);
        row("41: against(1)", x, -1);
        x.talk(1);
        due("41: it wins 0", x.against(1), 1);
        row("41: of equal ones the first", x, 1);
        Checks.rule(x, 0, "i");
        due("41: it wins the last", x.against(1), 1);
        row("41: it wins the last, nobody is not as well", x, 1);
        MoreThanHalf y = Checks.of("b50,1!;n50,2;n50,3!;b50,1;n50,1;n50,1");
        Checks.rule(y, 0, "i");
        // SHOP 0 must always win one: 3, but for whom SHOP 1 wins behind it.
        due("41: one more that is won back", y.against(1), 2);
        row("41: one more that is won back", y, 1);
        due("41: two DAYS", y.against(2), 2);
        due("41: six DAYS", y.against(6), 2);
        due("41: 7", y.against(7), -1);
        due("41: -1", y.against(-1), -1);
        due("41: the ROW has one number", y.count(5), 1);
        due("41: nothing changed", y.state(0), 9);
    }

    private static void change() {
        MoreThanHalf x = Checks.of("b50,1!;n50,1;n50,1");
        due("42: two are made", x.change(1), 2);
        row("42: two are made", x, 0, 1, 0, 2);
        due("42: not now", x.change(0), -2);
        row("42: -2 tells nothing", x, 0, 1, 0, 2);
        x.meet(0, 2, 3);
        due("42: one is made", x.change(1), 1);
        row("42: one is made", x, 0, 1);
        x.meet(0, 1, 3);
        due("42: it is so", x.change(1), 0);
        row("42: it is so", x);
        due("42: 21", x.change(21), -1);
        due("42: -1", x.change(-1), -1);
        MoreThanHalf y = Checks.of("b50,1!;n50,1;n50,1;0>1*1;1-2*3;0>2*3");
        due("42: one is ended", y.change(1), 1);
        row("42: one is ended", y, 1, 2);
        due("42: nothing changed", y.hears(1, 2) * 10 + y.hears(2, 1), 33);
        MoreThanHalf z = Checks.of("b50,1!;n50,1;n50,1;n50,1!");
        due("42: one FIRM against", z.change(20), -2);
        MoreThanHalf w = Checks.of("b50,1!;n50,1;n50,1;n50,1");
        due("42: three are too many", w.change(20), -2);
        // Heard one way only is ended; a chain takes two DAYS.
        MoreThanHalf v = Checks.of("b50,1!;n50,1;n50,1;1>2*1");
        due("42: a chain", v.change(2), 1);
        row("42: a chain", v, 0, 1);
        // With 0 and 1 heard as loud, 2 hears no more than half.
        due("42: in one DAY", v.change(1), -2);
        row("42: in one DAY", v, 0, 1);
        MoreThanHalf u = Checks.of("b50,1!;n50,1;n50,1!;0>1*1;2>1*1", "n50,1;n50,1");
        due("42: one FIRM against", u.change(20), -2);
        MoreThanHalf t = Checks.of("b50,1!;n50,1;b50,1!;0>1*1;1>2*1", "n50,1;3>1*1");
        // 1 hears 0 and 3, 3 hears nobody: from 0 or 2 it hears, and so does 1 behind it.
        due("42: of as few the least row", t.change(20), 1);
        row("42: of as few the least row", t, 0, 3);
    }

    private static void single() {
        MoreThanHalf x = Checks.of("b50,1!;n50,1;n50,1;1>2*1");
        due("43: two DAYS", x.single(2), 1);
        row("43: two DAYS", x, 1);
        due("43: one DAY", x.single(1), 0);
        row("43: one DAY", x, 0);
        MoreThanHalf y = Checks.of("b50,1!;n50,1;n50,1;0>1*1;1-2*3;0>2*3");
        due("43: ended", y.single(1), 1);
        row("43: ended", y, 0);
        x.talk(6);
        due("43: though it is so", x.single(0), 3);
        row("43: though it is so", x, 2);
        due("43: 21", x.single(21), -1);
        due("43: -1", x.single(-1), -1);
        row("43: refused", x, 2);
    }

    private static void meet() {
        MoreThanHalf x = Checks.of("n1,1;n1,1;0>1*4");
        due("44: what the one heard", x.meet(0, 1, 9), 0);
        due("44: both ways", x.hears(0, 1) * 10 + x.hears(1, 0), 99);
        due("44: 0", x.meet(1, 0, 0), 9);
        due("44: both ways", x.hears(0, 1) + x.hears(1, 0), 0);
        Checks.street(x, "0>1*4");
        int[][] wrong = { { 0, 0, 1 }, { 0, 1, 10 }, { 0, 1, -1 }, { 2, 0, 1 }, { 0, 2, 1 }, { -1, 0, 1 }, { 0, -1, 1 } };
        for (int[] w : wrong) {
            due("44: meet(" + w[0] + ", " + w[1] + ", " + w[2] + ")", x.meet(w[0], w[1], w[2]), -1);
        }
        due("44: nothing changed", x.hears(0, 1) * 10 + x.hears(1, 0), 4);
        due("44: what the one heard", x.meet(1, 0, 2), 4);
    }

    private static void keep() {
        MoreThanHalf x = Checks.of(LINE);
        CHECKS.due("45: keep(2)", x.keep(2), false);
        CHECKS.due("45: keep(-1)", x.keep(-1), false);
        CHECKS.due("45: nothing kept", x.again(0) || x.again(1), false);
        CHECKS.due("45: keep(1)", x.keep(1), true);
        CHECKS.due("45: not under 0", x.again(0), false);
        x.go(5);
        CHECKS.due("45: keep(1) once more", x.keep(1), true);
        x.go(5);
        CHECKS.due("45: again(1)", x.again(1), true);
        due("45: the later one", x.count(1), 5);
    }

    private static void again() {
        MoreThanHalf x = Checks.of(LINE);
        x.go(1);
        x.talk(2);
        x.go(1);
        CHECKS.due("46: keep(0)", x.keep(0), true);
        x.talk(2);
        x.go(3);
        x.set(0, 0, 1);
        x.set(0, 1, 9);
        x.meet(0, 2, 7);
        x.keep(1);
        Checks.rule(x, 0, "i");
        CHECKS.due("46: again(0)", x.again(0), true);
        due("46: DAYS", x.count(1), 2);
        due("46: STATES", x.state(0) * 100 + x.state(1) * 10 + x.state(2), 125);
        due("46: NEEDS", x.person(0, 1), 50);
        due("46: PRICES are not kept", x.person(0, 2), 9);
        due("46: who hears whom", x.hears(0, 2) + x.hears(2, 0), 0);
        due("46: what a DAY brings", x.behind(1), 0);
        due("46: RULES are not kept", x.count(4), 1);
        CHECKS.due("46: again(1)", x.again(1), true);
        due("46: DAYS of 1", x.count(1), 5);
        due("46: LOUD of 1", x.hears(0, 2), 7);
        CHECKS.due("46: as often as one likes", x.again(0) && x.again(0), true);
        CHECKS.due("46: again(2)", x.again(2), false);
        CHECKS.due("46: again(-1)", x.again(-1), false);
        Checks.street(x, "0-1*5");
        CHECKS.due("46: acquaintances told since", x.again(0), true);
        due("46: as it was", x.hears(0, 1), 1);
        Checks.street(x, "n5,1;x");
        CHECKS.due("46: nobody told since", x.again(0), true);
        Checks.street(x, "n5,1");
        CHECKS.due("46: some of PEOPLE told since", x.again(0) || x.again(1), false);
        due("46: refused", x.count(1), 0);
        x.keep(0);
        CHECKS.due("46: kept anew", x.again(0), true);
    }

    private static void count() {
        MoreThanHalf x = Checks.of("b50,3;n50,2!;b40,1!;0-1*1;1>2*1");
        x.go(2);
        x.rest();
        Checks.rule(x, 1, "s");
        x.sign(0);
        int[] due = { 3, 2, 1, 6, 2, 3, 4, 2 };
        for (int what = 0; what < 8; what++) {
            due("47: count(" + what + ")", x.count(what), due[what]);
        }
        due("47: count(8)", x.count(8), -1);
        due("47: count(-1)", x.count(-1), -1);
    }

    private static void row() {
        MoreThanHalf x = Checks.of(LINE);
        CHECKS.throwsNoSuch("48: none told", () -> x.row(0));
        x.rest();
        due("48: row(0)", x.row(0), 1);
        CHECKS.throwsNoSuch("48: row(3)", () -> x.row(3));
        CHECKS.throwsNoSuch("48: row(-1)", () -> x.row(-1));
        CHECKS.throwsNoSuch("48: row(MIN)", () -> x.row(Integer.MIN_VALUE));
        x.go(1);
        x.talk(1);
        x.state(0);
        x.behind(3);
        x.picks(0);
        x.keep(0);
        x.otherwise(1, 1);
        due("48: told last by a call that says so", x.count(5), 3);
        x.part(0);
        row("48: told last by a call that says so", x, 1);
    }
}

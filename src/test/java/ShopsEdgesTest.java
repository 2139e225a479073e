/** The edges of promises 36 to 41, a test for each piece of the document. What is due was reckoned by hand. */
public final class ShopsEdgesTest {
    private static final String FORTY = "1+".repeat(19) + "23";

    public static void main(String[] args) throws Exception {
        Sentences.ask(ShopsEdgesTest.class);
    }

    /** 0 is FIRM and BELIEVES; behind it four lines of three, each of whom hears the one ahead of it. */
    private static MoreThanHalf fourLines() {
        MoreThanHalf x = Streets.more(Checks.of("b50,1!"), 12, "n50,1");
        for (int i = 1; i <= 12; i++) {
            Streets.tell(x, Math.max(0, i - 4) + ">" + i + "*1");
        }
        return x;
    }

    // ---- 36: rule

    @Says(promise = 36, words = "THE TEXT is a RULE")
    private static void theTextIsARule(Checks c) {
        MoreThanHalf x = Checks.of("n7,1");
        c.due("RULE 1", Checks.rule(x, 1, "n"), 0);
        c.due("RULE 1 alone is told", x.count(4), 2);
        c.due("RULE 0 is none", x.rates(0, 0), 0);
        c.due("RULE 0", Checks.rule(x, 0, "p"), 0);
        c.due("both are told", x.count(4), 3);
        c.due("RULE 0", x.rates(0, 0), 1);
        c.due("RULE 1", x.rates(1, 0), 7);
        c.due("another RULE 1", Checks.rule(x, 1, "n+1"), 0);
        c.due("it is the RULE", x.rates(1, 0), 8);
        c.due("RULE 0 is as it was", x.rates(0, 0), 1);
        c.due("the longest", Checks.rule(x, 0, FORTY), 0);
        c.due("the longest for 0", x.rates(0, 0), 42);
    }

    @Says(promise = 36, words = "(an empty one: none): 0.")
    private static void anEmptyRule(Checks c) {
        MoreThanHalf x = Checks.of("n7,1");
        c.due("of none", x.rule(0), 0);
        c.due("none is told", x.count(4), 0);
        Checks.rule(x, 0, "n");
        Checks.rule(x, 1, "n");
        c.due("RULE 1 becomes none", x.rule(1), 0);
        c.due("RULE 0 is left", x.count(4), 1);
        c.due("none is 0", x.rates(1, 0), 0);
        c.due("RULE 0 becomes none", x.rule(0), 0);
        c.due("none is left", x.count(4), 0);
        c.due("a RULE that is 0 is one", Checks.rule(x, 0, "0"), 0);
        c.due("it is told", x.count(4), 1);
    }

    private static void wrong(Checks c, String rule, int at) {
        Probe.empties(c, "RULE " + rule, rule, -1 - at, x -> x.rule(0));
    }

    @Says(promise = 36, words = "-1 - p: the sign at p can't stand there")
    private static void whereASignCantStand(Checks c) {
        String[] rules = { "x", "+i", "i+*n", "i-+n", "i n", "i(n)", "(i)n", "in", "n1", "1n", "1000", "i)", "()", "(i))", "(((((i)))))",
            "i<n<p", "<i", "(i=n>p)", "i+x", "" + (char) 0, "i" + (char) ('+' + 128) };
        int[] at = { 0, 0, 2, 2, 1, 1, 3, 1, 1, 1, 3, 1, 1, 3, 4, 3, 0, 4, 2, 0, 1 };
        for (int k = 0; k < rules.length; k++) {
            wrong(c, rules[k], at[k]);
        }
        wrong(c, "1+".repeat(19) + "1x", 39);
        wrong(c, "1+".repeat(19) + "1x1+1", 39);
    }

    @Says(promise = 36, words = "(its end, if it ends too early")
    private static void endsTooEarly(Checks c) {
        String rule = "-(i+12)*n<3";
        for (int length = 1; length <= rule.length(); length++) {
            boolean right = length == 7 || length == 9 || length == 11;
            int due = right ? 0 : -1 - length;
            String begun = rule.substring(0, length);
            c.due(begun, Checks.rule(new MoreThanHalf(), 1, begun), due);
            if (!right) {
                wrong(c, begun, length);
            }
        }
        wrong(c, "1+".repeat(20), 40);
        wrong(c, "(" + "1+".repeat(19) + "1", 40);
        wrong(c, "1+".repeat(19), 38);
        wrong(c, "(" + "1+".repeat(18) + "12", 39);
    }

    @Says(promise = 36, words = "40, if it has more and the first 40 could go on or end)")
    private static void moreThan40(Checks c) {
        String[] firsts = { FORTY, "1+".repeat(20), "(" + "1+".repeat(19) + "1", "1+".repeat(18) + "i+99" };
        for (String first : firsts) {
            c.due("signs", first.length(), 40);
            for (String more : new String[] { "1", "+", "x", ")", "1)+i", "" + (char) 0 }) {
                wrong(c, first + more, 40);
            }
        }
        wrong(c, FORTY + FORTY, 40);
        wrong(c, "1+".repeat(18) + "i+999" + "9", 40);
        c.due("exactly 40 are enough", Checks.rule(new MoreThanHalf(), 0, FORTY), 0);
        c.due("39 are enough", Checks.rule(new MoreThanHalf(), 0, FORTY.substring(0, 39)), 0);
    }

    @Says(promise = 36, words = "-100: no such RULE (asked first).")
    private static void noSuchRule(Checks c) {
        int[] others = { -1, 2, 3, Integer.MIN_VALUE, Integer.MAX_VALUE };
        for (int shop : others) {
            Probe.empties(c, "rule(" + shop + ") of i", "i", -100, x -> x.rule(shop));
            Probe.empties(c, "rule(" + shop + ") of x", "x", -100, x -> x.rule(shop));
            Probe.empties(c, "rule(" + shop + ") of nothing", "", -100, x -> x.rule(shop));
        }
        Probe.empties(c, "rule(2) of more than 40", FORTY + "1", -100, x -> x.rule(2));
    }

    // ---- 37: rates

    @Says(promise = 37, words = "What a SHOP's RULE is for one of PEOPLE now.")
    private static void whatARuleIsNow(Checks c) {
        MoreThanHalf x = Streets.line();
        Checks.rule(x, 0, "s*10+n");
        Checks.rule(x, 1, "s*10+n");
        c.due("SHOP 0 for 1", x.rates(0, 1), 60);
        c.due("SHOP 1 for 1", x.rates(1, 1), 60);
        x.talk(4);
        c.due("SHOP 0 for 1, now", x.rates(0, 1), 50);
        c.due("SHOP 1 for 1, now", x.rates(1, 1), 70);
        x.go(1);
        c.due("SHOP 1 for 1, behind a DAY", x.rates(1, 1), 50);
        x.set(1, 0, 0);
        x.meet(1, 2, 9);
        c.due("SHOP 0 for 1, put otherwise", x.rates(0, 1), 100);
        MoreThanHalf firm = Checks.of("b1,7!;n1,8!");
        Checks.rule(firm, 1, "p");
        c.due("FIRM ones, too", firm.rates(1, 0) * 10 + firm.rates(1, 1), 78);
        MoreThanHalf full = Streets.alike(14, "n1,1");
        Checks.rule(full, 0, "i");
        c.due("the first of 14", full.rates(0, 0), 0);
        c.due("the last of 14", full.rates(0, 13), 13);
    }

    @Says(promise = 37, words = "NoSuchElementException: none such.")
    private static void noSuchRates(Checks c) {
        int[][] wrong = { { -1, 0 }, { 2, 0 }, { 0, -1 }, { 0, 4 }, { 1, 4 }, { 2, 4 }, { 0, 14 }, { 1, 32 } };
        for (int[] w : wrong) {
            Probe.throwsNoSuch(c, "rates(" + w[0] + ", " + w[1] + ")", x -> x.rates(w[0], w[1]));
        }
        for (int far : Streets.FAR) {
            Probe.throwsNoSuch(c, "rates(" + far + ", 0)", x -> x.rates(far, 0));
            Probe.throwsNoSuch(c, "rates(0, " + far + ")", x -> x.rates(0, far));
        }
        c.throwsNoSuch("0 of nobody", () -> new MoreThanHalf().rates(0, 0));
        c.throwsNoSuch("14 of 14", () -> Streets.alike(14, "n1,1").rates(0, 14));
    }

    // ---- 38: picks

    @Says(promise = 38, words = "Whom a SHOP wins over by its RULE now: of those it can the one with the greatest (of equal ones the first).")
    private static void theGreatestOrTheFirst(Checks c) {
        MoreThanHalf x = Checks.of("b1,9!;n1,9!;b1,4;n1,4;b1,5;n1,5;b1,5;n1,5");
        c.due("no RULE: the first, SHOP 0", x.picks(0), 2);
        c.due("no RULE: the first, SHOP 1", x.picks(1), 3);
        Checks.rule(x, 0, "p");
        Checks.rule(x, 1, "p");
        c.due("the first of the greatest, SHOP 0", x.picks(0), 4);
        c.due("the first of the greatest, SHOP 1", x.picks(1), 5);
        Checks.rule(x, 1, "-p");
        c.due("the greatest below 0", x.picks(1), 3);
        Checks.rule(x, 1, "128*256*256*256");
        c.due("all as little as can be", x.picks(1), 3);
        Checks.rule(x, 1, "128*256*256*256+(p=5)");
        c.due("one more than that", x.picks(1), 5);
        Checks.rule(x, 1, "128*256*256*256-1-(i<7)");
        c.due("as great as can be", x.picks(1), 7);
        x.talk(8);
        Checks.rule(x, 1, "4-p");
        c.due("now", x.picks(1), 5);
        c.due("nobody was won over", x.state(0), 1 + 4 + 8 + 16 + 64);
        MoreThanHalf full = Streets.alike(14, "n1,1");
        Checks.rule(full, 1, "i");
        c.due("the last of 14", full.picks(1), 13);
    }

    @Says(promise = 38, words = "-2: nobody; NONE: another SHOP.")
    private static void nobodyToPick(Checks c) {
        MoreThanHalf x = Checks.of("b1,1!;n1,1!");
        c.due("FIRM ones alone, SHOP 0", x.picks(0), -2);
        c.due("FIRM ones alone, SHOP 1", x.picks(1), -2);
        c.due("nobody BELIEVES", Checks.of("n1,1").picks(0), -2);
        c.due("all BELIEVE", Checks.of("b1,1").picks(1), -2);
        c.due("of nobody", new MoreThanHalf().picks(1), -2);
        int[] others = { -1, 2, 3, Integer.MIN_VALUE, Integer.MAX_VALUE };
        for (int shop : others) {
            Probe.refused(c, "picks(" + shop + ")", y -> y.picks(shop));
        }
    }

    // ---- 39: market

    @Says(promise = 39, words = "Both do so by RULES n DAYS (0 .. 60), from now on: how many BELIEVE then")
    private static void bothByRules(Checks c) {
        MoreThanHalf x = Streets.chain(14);
        Checks.rule(x, 0, "0");
        Checks.rule(x, 1, "i");
        c.tells("no DAY", x, x.market(0), 1, 1, 0, 0);
        // SHOP 1 wins 13, SHOP 0 wins it back, then 1 BELIEVES; the next DAY SHOP 0 wins 1, and 13 hears 12, who does not.
        c.tells("one DAY", x, x.market(1), 2, 3, 1, 1);
        c.tells("two DAYS", x, x.market(2), 2, 3, 2, 2);
        c.tells("60 DAYS", x, x.market(60), 2, 3, 60, 60);
        x.go(200);
        // 2 BELIEVES behind no 1 any more: one DAY more, one less.
        c.tells("from now on, though there are 200", x, x.market(1), 13, Streets.ALL_14 - 4, 1, 0);
    }

    @Says(promise = 39, words = "the ROW: that STATE, what SHOP 0, SHOP 1 paid.")
    private static void whatShopsPaid(Checks c) {
        MoreThanHalf x = Checks.of("n1,9;n1,0");
        c.tells("both as much", x, x.market(60), 0, 0, 540, 540);
        MoreThanHalf y = Checks.of("b1,3;n1,9");
        c.tells("SHOP 0 the first, SHOP 1 the second", y, y.market(1), 1, 2, 3, 9);
        MoreThanHalf firm = Checks.of("b1,3!;b1,3!;n1,9!");
        c.tells("nobody to win over", firm, firm.market(60), 2, 3, 0, 0);
        MoreThanHalf free = Checks.of("b1,0;n1,0");
        c.tells("for nothing", free, free.market(60), 1, 2, 0, 0);
    }

    @Says(promise = 39, words = "Nothing changes.")
    private static void marketChangesNothing(Checks c) {
        Probe.onlyTells(c, "market(60)", x -> x.market(60));
        Probe.onlyTells(c, "market(0)", x -> x.market(0));
    }

    @Says(promise = 39, words = "NONE: another n.")
    private static void noMarket(Checks c) {
        int[] others = { -1, 61, 62, Integer.MIN_VALUE, Integer.MAX_VALUE };
        for (int n : others) {
            Probe.refused(c, "market(" + n + ")", x -> x.market(n));
        }
    }

    // ---- 40: game

    @Says(promise = 40, words = "Both do as well as can be n DAYS (0 .. 3)")
    private static void asWellAsCanBe(Checks c) {
        MoreThanHalf x = fourLines();
        // A DAY brings four more, but for one whom SHOP 0 keeps from hearing it once there are some.
        int[] due = { 1, 5, 9, 12 };
        for (int n = 0; n <= 3; n++) {
            c.due("game(" + n + ")", x.game(n), due[n]);
        }
        c.due("no DAY went by", x.count(1), 0);
        MoreThanHalf full = Streets.more(Streets.alike(7, "b1,1"), 7, "n1,1");
        for (int n = 0; n <= 3; n++) {
            c.due("7 of 14, " + n, full.game(n), 7);
        }
    }

    @Says(promise = 40, words = "each may also win over nobody: how many BELIEVE then")
    private static void eachMayWinNobody(Checks c) {
        MoreThanHalf x = Checks.of("n1,1!;b1,1!;b1,1;0>2*9;1>2*1");
        c.tells("SHOP 1 has nobody, SHOP 0 wins 2 in vain", x, x.game(1), 2, -1);
        MoreThanHalf y = Checks.of("b1,1!;b1,1!;n1,1;0>2*1");
        c.tells("SHOP 0 has nobody, SHOP 1 need not", y, y.game(1), 3, -1);
        MoreThanHalf z = Checks.of("n1,1!;n1,1!");
        c.tells("neither has", z, z.game(3), 0, -1);
    }

    @Says(promise = 40, words = "the ROW: whom SHOP 1 wins over first (of equal ones nobody: NONE, then the first).")
    private static void whomFirst(Checks c) {
        MoreThanHalf x = Checks.of("b1,1;n1,1!;n1,1;n1,1;b1,1");
        for (int n = 1; n <= 3; n++) {
            c.tells("the first it can, " + n, x, x.game(n), 2, 2);
        }
        c.tells("no DAY: nobody", x, x.game(0), 2, -1);
        MoreThanHalf zero = Checks.of("n1,1;n1,1;b1,1");
        c.tells("the first of all", zero, zero.game(1), 1, 0);
        MoreThanHalf none = Checks.of("n1,1;n1,1");
        c.tells("nobody, as it is won back", none, none.game(1), 0, -1);
        MoreThanHalf third = Checks.of("b0,1;n1,1!;b0,1;n0,1;0-2*1;2-3*1;0-3*1");
        c.tells("the one that is needed", third, third.game(1), 3, 3);
    }

    @Says(promise = 40, words = "NONE: another n.")
    private static void noGame(Checks c) {
        int[] others = { -1, 4, 5, Integer.MIN_VALUE, Integer.MAX_VALUE };
        for (int n : others) {
            Probe.refused(c, "game(" + n + ")", x -> x.game(n));
        }
        Probe.onlyTells(c, "game(3)", x -> x.game(3));
    }

    // ---- 41: against

    @Says(promise = 41, words = "SHOP 1 as well as can be against SHOP 0's RULE, n DAYS (0 .. 6)")
    private static void againstARule(Checks c) {
        MoreThanHalf x = Streets.chain(14);
        // SHOP 0 wins the first back; those behind it go on, and 1 hears 0 again: one more each DAY.
        for (int n = 0; n <= 6; n++) {
            c.due("against(" + n + ")", x.against(n), n + 1);
        }
        c.due("no DAY went by", x.count(1), 0);
        Checks.rule(x, 0, "i");
        Checks.rule(x, 1, "0-i");
        // Now it wins the last back: 1 hears 0, 2 hears 1 if SHOP 1 wins another one behind it.
        c.due("against i, 1", x.against(1), 2);
        c.due("against i, 2", x.against(2), 3);
        c.due("against i, 6", x.against(6), 7);
    }

    @Says(promise = 41, words = "SHOP 1 as well as can be against SHOP 0's RULE, n DAYS (0 .. 6)")
    private static void againstARuleAsItIsNow(Checks c) {
        MoreThanHalf x = Checks.of("n1,1;b1,2;b1,3;2>0*1");
        Checks.rule(x, 0, "p");
        c.tells("it wins 2, so that 0 hears nobody", x, x.against(1), 1, -1);
        x.set(1, 1, 4);
        c.tells("now it wins 1, and 0 hears 2", x, x.against(1), 2, -1);
    }

    @Says(promise = 41, words = ": likewise.")
    private static void nobodyMayBeBest(Checks c) {
        MoreThanHalf x = Checks.of("b50,1;b50,1;n50,1;b50,1;b50,1;b50,1", "n50,1!;b50,1!;6>0*1;7>0*9;2>1*2;0>3*1;0>4*1;0>5*1");
        Checks.rule(x, 0, "s");
        // If SHOP 1 wins 2, 1 hears nobody more who does not BELIEVE, so that SHOP 0 wins 0, whom 3, 4, 5 hear.
        c.tells("SHOP 0 wins 1, who is no loss", x, x.against(1), 5, -1);
        x.talk(4);
        c.tells("SHOP 0 wins 0", x, x.against(1), 4, -1);
    }

    @Says(promise = 41, words = ": likewise.")
    private static void againstLikewise(Checks c) {
        MoreThanHalf x = Streets.chain(14);
        c.tells("no DAY", x, x.against(0), 1, -1);
        c.tells("nobody, if it is as well", x, x.against(6), 7, -1);
        x.go(1);
        c.tells("then the first that is: 2, so that SHOP 0 wins 1", x, x.against(6), 8, 2);
        c.tells("in a DAY", x, x.against(1), 3, 2);
        Checks.rule(x, 0, "i");
        c.tells("the first: 2 is won back, but 1 is not", x, x.against(1), 3, 2);
        MoreThanHalf last = Checks.of("b1,1;n1,1;n1,1;n1,1");
        Checks.rule(last, 0, "i=0");
        c.tells("the first of equal ones", last, last.against(6), 1, 1);
        c.tells("no DAY: nobody", last, last.against(0), 1, -1);
        MoreThanHalf zero = Checks.of("n1,1;n1,1;b1,1");
        Checks.rule(zero, 0, "i");
        c.tells("the first of all", zero, zero.against(1), 1, 0);
        MoreThanHalf firm = Checks.of("b1,1;n1,1!;n1,1;n1,1");
        c.tells("the first that is not FIRM", firm, firm.against(1), 1, 2);
        MoreThanHalf later = Checks.of("b1,1;n1,1;n1,1;n1,1;2>3*1");
        Checks.rule(later, 0, "i=1");
        c.tells("a later one, for the sake of 3", later, later.against(1), 2, 2);
    }

    @Says(promise = 41, words = "NONE: another n.")
    private static void noAgainst(Checks c) {
        int[] others = { -1, 7, 8, Integer.MIN_VALUE, Integer.MAX_VALUE };
        for (int n : others) {
            Probe.refused(c, "against(" + n + ")", x -> x.against(n));
        }
        Probe.onlyTells(c, "against(6)", x -> x.against(6));
    }
}

/** The edges of promises 28 to 35, a test for each piece of the document. What is due was reckoned by hand. */
public final class TalkingEdgesTest {
    /** 2 BELIEVES behind 1, who BELIEVES behind 0, who is FIRM and does. */
    private static final String CHAIN = "b50,1!;n50,7;n50,1;0>1*1;1>2*1";
    /** 3 hears two quiet ones and a loud one: the loud one, or both others, are half and more than its NEED. */
    private static final String FOUR = "n50,1;n50,1;n50,2;n40,9;0>3*1;1>3*1;2>3*2";

    public static void main(String[] args) throws Exception {
        Sentences.ask(TalkingEdgesTest.class);
    }

    /** So many PEOPLE who do not BELIEVE, each of whom hears the one ahead of it, the first one the last. */
    private static MoreThanHalf silentRing(int people) {
        MoreThanHalf x = Streets.alike(people, "n50,1");
        for (int i = 0; i < people; i++) {
            Streets.tell(x, i + ">" + (i + 1) % people + "*1");
        }
        return x;
    }

    // ---- 28: fewest

    @Says(promise = 28, words = "The fewest PEOPLE to be talked round at once now so that they do (n 0 .. 20): how many")
    private static void fewestToBeTalkedRound(Checks c) {
        MoreThanHalf x = Streets.chain(14);
        c.tells("13 on DAY 13", x, x.fewest(1 << 13, 13), 0, 0);
        c.tells("13 on DAY 12", x, x.fewest(1 << 13, 12), 1, 2);
        c.tells("13 on DAY 1", x, x.fewest(1 << 13, 1), 1, 1 << 12);
        c.tells("13 on DAY 0", x, x.fewest(1 << 13, 0), 1, 1 << 13);
        c.tells("all on DAY 13", x, x.fewest(Streets.ALL_14, 13), 0, 0);
        c.tells("all on DAY 0", x, x.fewest(Streets.ALL_14, 0), 13, Streets.ALL_14 - 1);
        MoreThanHalf alone = Streets.alike(14, "n1,1");
        c.tells("all 14 alone", alone, alone.fewest(Streets.ALL_14, 20), 14, Streets.ALL_14);
        c.tells("nobody", alone, alone.fewest(0, 0), 0, 0);
        MoreThanHalf long170 = Streets.register(1);
        long170.go(150);
        c.tells("all on DAY 20", long170, long170.fewest(Streets.ALL_14, 20), 0, 0);
        c.due("all on DAY 20, sooner", long170.fewest(Streets.ALL_14, 19) > 0, true);
        c.due("nothing changed", long170.count(1), 150);
    }

    @Says(promise = 28, words = "the ROW: whom (bits): of as few the least as a number.")
    private static void ofAsFewTheLeast(Checks c) {
        MoreThanHalf x = Streets.line();
        c.tells("2 by 1 is less than by 2", x, x.fewest(4, 1), 1, 2);
        c.tells("itself alone", x, x.fewest(4, 0), 1, 4);
        MoreThanHalf y = Checks.of("n50,1;n50,1;n50,1;n40,1;n40,1;0>3*1;1>3*1;2>3*1;0>4*1;1>4*1;2>4*1");
        c.tells("3 is less than 5, 6 and 24", y, y.fewest(24, 1), 2, 3);
        MoreThanHalf four = Checks.of(FOUR);
        c.tells("4 is fewer than 3", four, four.fewest(8, 1), 1, 4);
    }

    @Says(promise = 28, words = "-2: all do not do")
    private static void allDoNotDo(Checks c) {
        MoreThanHalf x = Checks.of("n50,1!;n50,1;n50,1!;0-1*1");
        x.part(1);
        c.tells("a FIRM one", x, x.fewest(1, 20), -2, 2);
        c.tells("a FIRM one among others", x, x.fewest(7, 20), -2, 2);
        c.tells("but the other one", x, x.fewest(2, 20), 1, 2);
    }

    @Says(promise = 28, words = "NONE: others.")
    private static void noFewest(Checks c) {
        int[][] wrong = { { 16, 1 }, { 17, 1 }, { -1, 1 }, { Integer.MIN_VALUE, 1 }, { Integer.MAX_VALUE, 1 },
            { 1, -1 }, { 1, 21 }, { 1, Integer.MIN_VALUE }, { 1, Integer.MAX_VALUE } };
        for (int[] w : wrong) {
            Probe.refused(c, "fewest(" + w[0] + ", " + w[1] + ")", x -> x.fewest(w[0], w[1]));
        }
        c.due("14 of 14", Streets.alike(14, "n1,1").fewest(1 << 14, 1), -1);
    }

    // ---- 29: cheapest

    @Says(promise = 29, words = "The same with the least sum of PRICES")
    private static void leastSumOfPrices(Checks c) {
        MoreThanHalf x = Checks.of(FOUR);
        c.tells("on DAY 0", x, x.cheapest(8, 0), 9, 8);
        x.set(0, 1, 0);
        c.tells("two are cheaper than one", x, x.cheapest(8, 1), 1, 3);
        MoreThanHalf chain = Streets.chain(14);
        c.tells("13 on DAY 13", chain, chain.cheapest(1 << 13, 13), 0, 0);
        c.tells("13 on DAY 12", chain, chain.cheapest(1 << 13, 12), 1, 2);
        MoreThanHalf dear = Streets.alike(14, "n1,9");
        c.tells("all 14 as dear as can be", dear, dear.cheapest(Streets.ALL_14, 20), 126, Streets.ALL_14);
        c.tells("nobody", dear, dear.cheapest(0, 20), 0, 0);
        MoreThanHalf long170 = Streets.register(1);
        long170.go(150);
        c.tells("all on DAY 20", long170, long170.cheapest(Streets.ALL_14, 20), 0, 0);
        c.due("all on DAY 20, sooner", long170.cheapest(Streets.ALL_14, 19) > 0, true);
    }

    @Says(promise = 29, words = "of equal ones the fewest, then the least: the sum; the ROW: whom.")
    private static void ofEqualOnes(Checks c) {
        MoreThanHalf x = Checks.of(FOUR);
        c.tells("one for 2 is fewer than two for 2", x, x.cheapest(8, 1), 2, 4);
        MoreThanHalf y = Checks.of("n50,3;n50,3;n40,9;0>2*1;1>2*1");
        c.tells("the first is less", y, y.cheapest(4, 1), 3, 1);
        y.set(0, 1, 4);
        c.tells("but not if it is dearer", y, y.cheapest(4, 1), 3, 2);
        MoreThanHalf free = Streets.alike(14, "n1,0");
        c.tells("free ones too are not talked round in vain", free, free.cheapest(4, 0), 0, 4);
    }

    @Says(promise = 29, words = "-2, NONE likewise.")
    private static void cheapestLikewise(Checks c) {
        MoreThanHalf x = Checks.of("n50,0!;n50,1;0-1*1");
        x.part(1);
        c.tells("a FIRM one", x, x.cheapest(1, 20), -2, 1);
        int[][] wrong = { { 16, 1 }, { 17, 1 }, { -1, 1 }, { Integer.MIN_VALUE, 1 }, { Integer.MAX_VALUE, 1 },
            { 1, -1 }, { 1, 21 }, { 1, Integer.MIN_VALUE }, { 1, Integer.MAX_VALUE } };
        for (int[] w : wrong) {
            Probe.refused(c, "cheapest(" + w[0] + ", " + w[1] + ")", y -> y.cheapest(w[0], w[1]));
        }
        c.due("14 of 14", Streets.alike(14, "n1,1").cheapest(1 << 14, 1), -1);
    }

    // ---- 30: daily

    @Says(promise = 30, words = "One at most is talked round each DAY")
    private static void oneEachDay(Checks c) {
        MoreThanHalf x = Checks.of("n50,0;n50,0;n50,5");
        c.due("two in one DAY", x.daily(3, 1), -2);
        c.tells("two in two DAYS", x, x.daily(3, 2), 0, 2, 0);
        c.due("three in two DAYS", x.daily(7, 2), -2);
        c.tells("three in three DAYS", x, x.daily(7, 3), 5, 3, 0);
    }

    @Says(promise = 30, words = "(1 .. n of them, the last one a DAY ahead of the end; then the DAY goes by)")
    private static void theLastOneADayAhead(Checks c) {
        MoreThanHalf x = Streets.alike(14, "n1,1");
        c.tells("six of 14 in six DAYS", x, x.daily(63 << 8, 6), 6, 6, 8);
        c.due("six in five DAYS", x.daily(63, 5), -2);
        c.due("seven in six DAYS", x.daily(127, 6), -2);
        MoreThanHalf line = Streets.line();
        c.tells("2 talked round a DAY ahead does not BELIEVE on the DAY", line, line.daily(4, 1), 2, 1, 1);
        MoreThanHalf chain = Checks.of("n50,1;n50,9;0>1*1");
        c.due("who hears another one, in a DAY", chain.daily(3, 1), 1);
        c.row("by that one", chain, 1, 0);
    }

    @Says(promise = 30, words = "the least sum of PRICES with which told PEOPLE all BELIEVE on DAY n or sooner")
    private static void onDayNOrSooner(Checks c) {
        MoreThanHalf x = Checks.of(CHAIN);
        c.tells("in one DAY", x, x.daily(6, 1), 7, 1, 1);
        c.tells("in two", x, x.daily(6, 2), 0, 2, -1);
        c.tells("in six", x, x.daily(6, 6), 0, 2, -1);
        MoreThanHalf line = Streets.line();
        c.tells("who BELIEVES now and on no later DAY", line, line.daily(1, 6), 0, 0, -1);
        c.tells("all in two DAYS", line, line.daily(7, 2), 4, 2, 1);
        c.tells("all in three", line, line.daily(7, 3), 3, 3, 2);
        MoreThanHalf dear = Streets.alike(14, "n1,9");
        c.tells("six as dear as can be", dear, dear.daily(63, 6), 54, 6, 0);
        MoreThanHalf far = Streets.chain(14);
        c.tells("on DAY 6", far, far.daily(64, 6), 0, 6, -1);
        c.tells("one too far for DAY 6", far, far.daily(128, 6), 1, 1, 6);
    }

    @Says(promise = 30, words = "(n 0 .. 6; behind a DAY; DAY 0: as it is)")
    private static void day0AsItIs(Checks c) {
        MoreThanHalf x = Streets.line();
        c.tells("nobody told", x, x.daily(0, 0), 0, 0, -1);
        c.tells("who BELIEVES", x, x.daily(1, 0), 0, 0, -1);
        c.tells("who does not: nobody is talked round without a DAY", x, x.daily(4, 0), -2, 0, -1);
        c.tells("with a DAY", x, x.daily(4, 1), 2, 1, 1);
        c.due("n 6", x.daily(7, 6), 3);
        c.due("n 7", x.daily(7, 7), -1);
        c.due("nothing changed", x.state(0) * 10 + x.count(1), 10);
    }

    @Says(promise = 30, words = "it; the ROW: on which DAY at soonest with so much, "
        + "whom on the first DAY (NONE: nobody; of equal ones that, then the first).")
    private static void soonestAndWhomFirst(Checks c) {
        MoreThanHalf x = Checks.of("b50,1!;n50,0;n50,0;0>1*1;1>2*1");
        c.tells("nobody, though 1 is free", x, x.daily(2, 6), 0, 1, -1);
        c.tells("soonest: 1 for nothing", x, x.daily(6, 6), 0, 1, 1);
        MoreThanHalf y = Checks.of("n50,3;n50,3;n40,3;0>2*1;1>2*1");
        c.tells("the first of two", y, y.daily(4, 6), 3, 1, 0);
        y.set(0, 1, 4);
        c.tells("but not if it is dearer", y, y.daily(4, 6), 3, 1, 1);
        MoreThanHalf firm = Checks.of("n50,3!;n50,3;n40,3;0>2*1;1>2*1");
        c.tells("the first that is not FIRM", firm, firm.daily(4, 6), 3, 1, 1);
        MoreThanHalf last = Streets.alike(14, "n1,0");
        c.tells("the last of 14", last, last.daily(1 << 13, 6), 0, 1, 13);
    }

    @Says(promise = 30, words = "-2: it can't be; NONE: others.")
    private static void dailyCantBe(Checks c) {
        MoreThanHalf x = Checks.of("n50,0!;n50,0;0-1*1");
        x.part(0);
        c.tells("a FIRM one", x, x.daily(1, 6), -2, 1);
        c.tells("who hears a FIRM one that does not", x, x.daily(2, 6), -2, 1);
        int[][] wrong = { { 16, 1 }, { 17, 1 }, { -1, 1 }, { Integer.MIN_VALUE, 1 }, { Integer.MAX_VALUE, 1 },
            { 1, -1 }, { 1, 7 }, { 1, Integer.MIN_VALUE }, { 1, Integer.MAX_VALUE } };
        for (int[] w : wrong) {
            Probe.refused(c, "daily(" + w[0] + ", " + w[1] + ")", y -> y.daily(w[0], w[1]));
        }
        c.due("14 of 14", Streets.alike(14, "n1,1").daily(1 << 14, 1), -1);
    }

    // ---- 31: plan

    @Says(promise = 31, words = "The same as daily(), told DAY by DAY: the ROW: whom on each DAY till they all BELIEVE (NONE: nobody)")
    private static void dayByDay(Checks c) {
        MoreThanHalf x = Streets.alike(14, "n1,1");
        c.tells("six of 14", x, x.plan(63 << 8, 6), 6, 8, 9, 10, 11, 12, 13);
        MoreThanHalf line = Streets.line();
        c.tells("2, then nobody, then 1", line, line.plan(7, 6), 3, 2, -1, 1);
        MoreThanHalf chain = Streets.chain(14);
        c.tells("nobody on six DAYS", chain, chain.plan(64, 6), 6, -1, -1, -1, -1, -1, -1);
        c.tells("who BELIEVES now", line, line.plan(1, 6), 0);
        c.tells("nobody told", line, line.plan(0, 0), 0);
        c.due("nothing changed", line.state(0) * 10 + line.count(1), 10);
    }

    @Says(promise = 31, words = "the least sum, the fewest DAYS with so much")
    private static void fewestDays(Checks c) {
        MoreThanHalf x = Checks.of(CHAIN);
        c.tells("one DAY for 7", x, x.plan(6, 1), 1, 1);
        c.tells("two DAYS for nothing", x, x.plan(6, 6), 2, -1, -1);
        x.set(1, 1, 0);
        c.tells("one DAY for nothing", x, x.plan(6, 6), 1, 1);
        MoreThanHalf line = Streets.line();
        c.tells("two DAYS for 4", line, line.plan(7, 2), 2, 1, 1);
        c.tells("three DAYS for 3", line, line.plan(7, 3), 3, 2, -1, 1);
    }

    @Says(promise = 31, words = "then each time nobody, or the first, that lets it be so: how many DAYS.")
    private static void eachTimeNobodyOrTheFirst(Checks c) {
        MoreThanHalf x = Checks.of("n50,0;n50,0;n50,5");
        c.tells("the first ones first", x, x.plan(7, 6), 3, 0, 1, 2);
        c.tells("the first one first", x, x.plan(6, 6), 2, 1, 2);
        MoreThanHalf late = Checks.of("b50,1!;n50,0;n50,0;n50,5;0>1*1");
        // On DAY 1 nobody would do for 1, but 2 and 3 need a DAY each.
        c.tells("nobody has to wait", late, late.plan(14, 6), 2, 2, 3);
        MoreThanHalf wait = Checks.of("b50,1!;n50,1;n50,1;n50,0;0>1*1;1>2*1");
        c.tells("nobody, if a later DAY does as well", wait, wait.plan(14, 6), 2, -1, 3);
    }

    @Says(promise = 31, words = "-2, NONE likewise.")
    private static void planLikewise(Checks c) {
        MoreThanHalf x = Checks.of("n50,0!;n50,0;0-1*1");
        x.part(0);
        c.tells("a FIRM one", x, x.plan(1, 6), -2, 1);
        c.due("seven in six DAYS", Streets.alike(7, "n1,1").plan(127, 6), -2);
        c.due("one without a DAY", Streets.line().plan(4, 0), -2);
        int[][] wrong = { { 16, 1 }, { 17, 1 }, { -1, 1 }, { Integer.MIN_VALUE, 1 }, { Integer.MAX_VALUE, 1 },
            { 1, -1 }, { 1, 7 }, { 1, Integer.MIN_VALUE }, { 1, Integer.MAX_VALUE } };
        for (int[] w : wrong) {
            Probe.refused(c, "plan(" + w[0] + ", " + w[1] + ")", y -> y.plan(w[0], w[1]));
        }
        c.due("14 of 14", Streets.alike(14, "n1,1").plan(1 << 14, 1), -1);
    }

    // ---- 32: guard

    @Says(promise = 32, words = "The fewest of those who are not FIRM and do not BELIEVE to be made FIRM, so that told PEOPLE on no DAY all BELIEVE, "
        + "though all others who could be are talked round now: how many")
    private static void fewestToBeMadeFirm(Checks c) {
        MoreThanHalf x = Streets.line();
        c.tells("all told", x, x.guard(7), 1, 2);
        c.tells("one told", x, x.guard(4), 1, 4);
        c.tells("who BELIEVES, and one who does not", x, x.guard(5), 1, 4);
        MoreThanHalf full = Streets.alike(14, "n1,1");
        c.tells("all 14", full, full.guard(Streets.ALL_14), 1, 1);
        c.tells("the last of 14", full, full.guard(1 << 13), 1, 1 << 13);
    }

    @Says(promise = 32, words = "the ROW: they (bits): of as few the least.")
    private static void leastToBeMadeFirm(Checks c) {
        MoreThanHalf x = Checks.of("b1,1;b1,1!;n1,1;n1,1;n1,1");
        c.tells("the first who does not BELIEVE", x, x.guard(31), 1, 4);
        c.tells("the first of two", x, x.guard(24), 1, 8);
        c.tells("the last", x, x.guard(19), 1, 16);
    }

    @Says(promise = 32, words = "0: none needed")
    private static void noneNeeded(Checks c) {
        MoreThanHalf x = Checks.of("b1,1;n1,1!;n1,1;1>2*1");
        c.tells("a FIRM one that does not", x, x.guard(2), 0, 0);
        c.tells("with all others", x, x.guard(7), 0, 0);
        c.tells("but without it", x, x.guard(5), 1, 4);
    }

    @Says(promise = 32, words = "-2: all told are FIRM or BELIEVE, and do, whoever is made FIRM")
    private static void whoeverIsMadeFirm(Checks c) {
        MoreThanHalf x = Checks.of("b50,1;n50,1;b50,1!;n50,1!;1>0*9");
        x.part(1);
        c.tells("who BELIEVES now, though not for long", x, x.guard(1), -2, 3);
        c.tells("who is FIRM and BELIEVES", x, x.guard(4), -2, 3);
        c.tells("both", x, x.guard(5), -2, 3);
        c.tells("nobody told", x, x.guard(0), -2, 3);
        c.tells("one who does not BELIEVE, too", x, x.guard(7), 1, 2);
        c.due("all 14", Streets.alike(14, "b1,1").guard(Streets.ALL_14), -2);
    }

    @Says(promise = 32, words = "NONE: others.")
    private static void noGuard(Checks c) {
        int[] others = { 16, 17, 1 << 14, -1, Integer.MIN_VALUE, Integer.MAX_VALUE };
        for (int people : others) {
            Probe.refused(c, "guard(" + people + ")", x -> x.guard(people));
        }
        c.due("14 of 14", Streets.alike(14, "n1,1").guard(1 << 14), -1);
    }

    @Says(promise = 32, words = "Nothing changes.")
    private static void guardChangesNothing(Checks c) {
        Probe.onlyTells(c, "guard(15)", x -> x.guard(15));
        Probe.onlyTells(c, "guard(0)", x -> x.guard(0));
        MoreThanHalf x = Streets.line();
        x.guard(7);
        c.due("FIRM ones", x.count(3), 0);
        c.due("STATE", x.state(0), 1);
    }

    // ---- 33: holds

    @Says(promise = 33, words = "PEOPLE (bits) who HOLD: the greatest set of those who are not FIRM and do not BELIEVE")
    private static void greatestSet(Checks c) {
        MoreThanHalf all = Streets.alike(14, "n1,1");
        c.tells("14 who hear nobody", all, all.holds(), 14, Streets.ALL_14);
        all.talk(1 << 13);
        c.tells("13 of them", all, all.holds(), 13, Streets.ALL_14 - (1 << 13));
        MoreThanHalf ring = silentRing(14);
        c.tells("14 in a ring", ring, ring.holds(), 14, Streets.ALL_14);
        ring.talk(1);
        c.tells("none, if one BELIEVES", ring, ring.holds(), 0, 0);
        MoreThanHalf firm = Streets.alike(14, "n1,1!");
        c.tells("FIRM ones", firm, firm.holds(), 0, 0);
        MoreThanHalf two = Checks.of("n50,1;n50,1;n50,1;n50,1;0-1*1;2-3*1");
        c.tells("two sets together", two, two.holds(), 4, 15);
    }

    @Says(promise = 33, words = "each of whom would not BELIEVE behind any DAY on which none of the set does, "
        + "whoever else BELIEVES (but FIRM ones, who stay as they are)")
    private static void whoeverElseBelieves(Checks c) {
        MoreThanHalf x = Checks.of("n50,1;n50,1;b50,1;0-1*1;2>0*1");
        c.tells("half is not above NEED 50", x, x.holds(), 2, 3);
        x.set(0, 0, 49);
        c.tells("half is above NEED 49", x, x.holds(), 0, 0);
        MoreThanHalf no = Checks.of("n49,1;n50,1;n50,1!;0-1*1;2>0*1");
        c.tells("a FIRM one that does not BELIEVE never does", no, no.holds(), 2, 3);
        MoreThanHalf yes = Checks.of("n49,1;n50,1;b50,1!;0-1*1;2>0*1");
        c.tells("a FIRM one that BELIEVES", yes, yes.holds(), 0, 0);
        MoreThanHalf other = Checks.of("n49,1;n50,1;b50,1;0-1*1;2>0*1;0>2*1");
        c.tells("one who BELIEVES now, and may for ever", other, other.holds(), 0, 0);
    }

    @Says(promise = 33, words = ": how many; the ROW: they.")
    private static void howManyHold(Checks c) {
        MoreThanHalf x = Streets.line();
        c.tells("two", x, x.holds(), 2, 6);
        x.talk(4);
        c.tells("none", x, x.holds(), 0, 0);
        MoreThanHalf y = Checks.of("b1,1;n1,1");
        c.tells("one", y, y.holds(), 1, 2);
    }

    // ---- 34: shield

    @Says(promise = 34, words = "The fewest PEOPLE of a set that HOLDS so, one told being of it: how many")
    private static void fewestOfASet(Checks c) {
        MoreThanHalf ring = silentRing(14);
        c.tells("all 14 of a ring", ring, ring.shield(13), 14, Streets.ALL_14);
        MoreThanHalf alone = Streets.alike(14, "n1,1");
        c.tells("itself alone, the first", alone, alone.shield(0), 1, 1);
        c.tells("itself alone, the last", alone, alone.shield(13), 1, 1 << 13);
        MoreThanHalf x = Checks.of("n50,1;n50,1;n50,1;0>1*1;1>2*1");
        c.tells("who hears nobody", x, x.shield(0), 1, 1);
        c.tells("with the one it hears", x, x.shield(1), 2, 3);
        c.tells("with the ones ahead of it", x, x.shield(2), 3, 7);
    }

    @Says(promise = 34, words = "the ROW: they (bits): of as few the least.")
    private static void leastOfSets(Checks c) {
        MoreThanHalf x = Checks.of("n60,1;n60,1;n60,1;n60,1;0-1*4;1-2*4;0-2*4;0-3*4;1-3*4;2-3*4");
        // Each hears three: two of them are above 60 of 100, one is not; so two others have to be of the set.
        c.tells("of 0, 1, 2, 3", x, x.shield(0), 3, 7);
        c.tells("with 2", x, x.shield(2), 3, 7);
        c.tells("with 3", x, x.shield(3), 3, 11);
    }

    @Says(promise = 34, words = "-2: it is in none")
    private static void inNone(Checks c) {
        MoreThanHalf x = Checks.of("b50,1;n50,1!;n50,1;n50,1;0>2*1;1>3*1");
        x.part(1);
        c.tells("who BELIEVES", x, x.shield(0), -2, 2);
        c.tells("who is FIRM", x, x.shield(1), -2, 2);
        c.tells("who hears one who BELIEVES", x, x.shield(2), -2, 2);
        c.tells("but who hears a FIRM one that does not", x, x.shield(3), 1, 8);
    }

    @Says(promise = 34, words = "NONE: none such.")
    private static void noSuchShield(Checks c) {
        int[] wrong = { 4, -1, 14, 32, Integer.MIN_VALUE, Integer.MAX_VALUE };
        for (int i : wrong) {
            Probe.refused(c, "shield(" + i + ")", x -> x.shield(i));
        }
        c.due("0 of nobody", new MoreThanHalf().shield(0), -1);
        c.due("14 of 14", Streets.alike(14, "n1,1").shield(14), -1);
    }

    // ---- 35: bound

    @Says(promise = 35, words = "A bound: sets that HOLD, no two of which have one in common, one behind the other")
    private static void noTwoHaveOneInCommon(Checks c) {
        MoreThanHalf x = Checks.of("n50,1;n50,1;n50,1;0>1*1;1>2*1");
        c.tells("0, 01 and 012 have 0 in common", x, x.bound(), 1, 1);
        MoreThanHalf ring = silentRing(14);
        c.tells("one of 14", ring, ring.bound(), 1, Streets.ALL_14);
        MoreThanHalf alone = Streets.alike(14, "n1,1");
        c.tells("14 of one", alone, alone.bound(), 14, 1, 2, 4, 8, 16, 32, 64, 128, 256, 512, 1024, 2048, 4096, 8192);
        MoreThanHalf none = Streets.alike(14, "b1,1");
        none.rest();
        c.tells("none", none, none.bound(), 0);
    }

    @Says(promise = 35, words = "each the one with the fewest (as shield()) of those that are left, the one with the least first")
    private static void eachTheFewest(Checks c) {
        MoreThanHalf x = Checks.of("n60,1;n60,1;n60,1;n60,1;n60,1;0-3*4;1-2*4");
        c.tells("one, then two pairs, the least first", x, x.bound(), 3, 16, 6, 9);
        MoreThanHalf three = Checks.of("n50,1;n50,1;n50,1;n50,1;n50,1;0>1*1;1>2*1;2>0*1;3-4*1");
        c.tells("two ahead of three, though not the least", three, three.bound(), 2, 24, 7);
        MoreThanHalf shared = Checks.of("n50,1;n50,1;n50,1;0-1*1;1-2*1");
        // Any of 1's two neighbours is enough to it: 0, 1 holds, and 1, 2 as well.
        c.tells("of equal ones the least", shared, shared.bound(), 1, 3);
    }

    @Says(promise = 35, words = "how many; the ROW: they (bits), one by one.")
    private static void boundsOneByOne(Checks c) {
        MoreThanHalf x = Streets.line();
        c.tells("one", x, x.bound(), 1, 6);
        x.talk(6);
        c.tells("none", x, x.bound(), 0);
        MoreThanHalf y = Checks.of("n1,1;b1,1;n1,1!;n1,1");
        c.tells("two", y, y.bound(), 2, 1, 8);
    }

    @Says(promise = 35, words = "Whoever wants all has to talk round one of each.")
    private static void oneOfEach(Checks c) {
        String[] streets = { Streets.LINE, "n60,1;n60,1;n60,1;n60,1;n60,1;0-3*4;1-2*4", "n50,1;n50,1;n50,1;0>1*1;1>2*1", "b1,1;n1,1" };
        for (String street : streets) {
            MoreThanHalf x = Checks.of(street);
            int all = (1 << x.count(0)) - 1;
            int many = x.bound();
            int[] sets = new int[many];
            for (int k = 0; k < many; k++) {
                sets[k] = (int) x.row(k);
            }
            c.due("no fewer than " + many + " of " + street, x.fewest(all, 20) >= many, true);
            for (int set : sets) {
                MoreThanHalf y = Checks.of(street);
                y.talk(all & ~set & ~y.state(0));
                y.go(200);
                c.due("nobody of " + set + " BELIEVES of " + street, y.state(200) & set, 0);
            }
        }
    }
}

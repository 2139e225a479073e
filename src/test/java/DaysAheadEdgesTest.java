/** The edges of promises 23 to 27, a test for each piece of the document. What is due was reckoned by hand. */
public final class DaysAheadEdgesTest {
    public static void main(String[] args) throws Exception {
        Sentences.ask(DaysAheadEdgesTest.class);
    }

    /** All others hear 0 alone, who hears nobody. */
    private static MoreThanHalf star(String first) {
        MoreThanHalf x = Streets.more(Checks.of(first), 13, "n50,1");
        for (int i = 1; i < 14; i++) {
            Streets.tell(x, "0>" + i + "*1");
        }
        return x;
    }

    // ---- 23: ahead

    @Says(promise = 23, words = "How many STATES there are from which the STATE comes")
    private static void fromHowMany(Checks c) {
        MoreThanHalf x = Streets.line();
        c.tells("1 comes from none", x, x.ahead(1), 0);
        x.talk(4);
        c.tells("5 comes from 2, 3, 6", x, x.ahead(1), 3, 2);
        MoreThanHalf star = star("b1,1");
        star.go(1);
        c.tells("half of all STATES of 14", star, star.ahead(1), 8192, 1);
        MoreThanHalf alone = Streets.alike(14, "b1,1");
        c.tells("itself alone", alone, alone.ahead(3), 1, Streets.ALL_14);
    }

    @Says(promise = 23, words = "in n DAYS (1 .. 3; FIRM ones as they are): how many")
    private static void inOneToThreeDays(Checks c) {
        MoreThanHalf x = Streets.line();
        x.talk(4);
        c.tells("5 in 1 DAY", x, x.ahead(1), 3, 2);
        c.tells("5 in 2 DAYS", x, x.ahead(2), 1, 5);
        c.tells("5 in 3 DAYS", x, x.ahead(3), 3, 2);
        MoreThanHalf ring = Streets.rings(14);
        c.tells("1 DAY back in a ring", ring, ring.ahead(1), 1, 2);
        c.tells("2 DAYS back in a ring", ring, ring.ahead(2), 1, 4);
        c.tells("3 DAYS back in a ring", ring, ring.ahead(3), 1, 8);
        MoreThanHalf firm = star("b1,1!");
        firm.go(1);
        c.tells("0 is FIRM", firm, firm.ahead(1), 8192, 1);
        MoreThanHalf not = Checks.of("n1,1!;n1,1;0>1*1");
        c.tells("of 0, 1, 2, 3 only 0 and 2 have 0 as it is", not, not.ahead(1), 2, 0);
    }

    @Says(promise = 23, words = "the ROW: the least of them (none without).")
    private static void leastOrNone(Checks c) {
        MoreThanHalf x = Streets.line();
        x.rest();
        c.tells("none", x, x.ahead(1), 0);
        x.rest();
        c.tells("none in 3 DAYS", x, x.ahead(3), 0);
        x.go(1);
        c.tells("0 is the least", x, x.ahead(1), 3, 0);
    }

    @Says(promise = 23, words = "NONE: another n.")
    private static void anotherNumberOfDays(Checks c) {
        int[] others = { 0, 4, -1, 200, Integer.MIN_VALUE, Integer.MAX_VALUE };
        for (int n : others) {
            Probe.refused(c, "ahead(" + n + ")", x -> x.ahead(n));
        }
    }

    // ---- 24: twins

    @Says(promise = 24, words = "How many other STATES")
    private static void howManyOthers(Checks c) {
        MoreThanHalf x = Streets.line();
        c.tells("7 has none", x, x.twins(7), 0);
        c.tells("5 has none", x, x.twins(5), 0);
        c.tells("2 has 3 and 6, not itself", x, x.twins(2), 2, 3, 1);
        MoreThanHalf star = star("n1,1");
        c.tells("8191 of 8192", star, star.twins(Streets.ALL_14), 8191, Streets.ALL_14 - (1 << 13), 1);
        c.tells("not of the STATE now", star, star.twins(1), 8191, 3, 1);
    }

    @Says(promise = 24, words = "(with FIRM ones as in it) have the same STATE behind them as a STATE told as bits: how many")
    private static void firmAsInIt(Checks c) {
        MoreThanHalf x = Checks.of("b1,1!;n50,1;0>1*1");
        c.tells("FIRM as told, not as it is", x, x.twins(0), 1, 2, 1);
        c.tells("FIRM as told, as it is", x, x.twins(1), 1, 3, 1);
        MoreThanHalf y = Checks.of("n1,1!;n50,1!");
        c.tells("all FIRM", y, y.twins(3), 0);
        MoreThanHalf z = Checks.of("n1,1!;n50,1;n50,1;2>1*1;1>2*1");
        c.tells("those who hear one another", z, z.twins(2), 0);
    }

    @Says(promise = 24, words = "the ROW: the one of them with the fewest PEOPLE otherwise (of equal ones the least; none without), "
        + "how many these are.")
    private static void fewestOtherwise(Checks c) {
        MoreThanHalf x = Streets.line();
        c.tells("1: 0 is nearer than 4", x, x.twins(1), 2, 0, 1);
        c.tells("0: 1 is as near as 4, and less", x, x.twins(0), 2, 1, 1);
        c.tells("3: 2 is nearer than 6", x, x.twins(3), 2, 2, 1);
        x.rest();
        c.tells("none without", x, x.twins(7), 0);
        MoreThanHalf two = Checks.of("n50,1;n50,1;n0,1;n50,1;2>0*1;3>1*1;0>2*1;1>2*1;0>3*1;1>3*1");
        c.tells("two otherwise", two, two.twins(1), 1, 2, 2);
        MoreThanHalf all = Checks.of("n0,1;n0,1;n0,1;n0,1;0>2*1;1>2*1;0>3*1;1>3*1;2>0*1;3>0*1;2>1*1;3>1*1");
        c.tells("of equal ones the least", all, all.twins(5), 8, 7, 1);
        int even = 1 + 16 + 32 + 64 + 1024 + 2048 + 4096;
        MoreThanHalf far = allOrNoneOf();
        c.tells("all 14 otherwise", far, far.twins(even), 1, Streets.ALL_14 - even, 14);
        c.tells("and back", far, far.twins(Streets.ALL_14 - even), 1, even, 14);
    }

    /**
     * Two hear each of five groups, one of them 7 and more of 14, the other one 8 and more. Only if the first of a group
     * alone, or all others of it alone, BELIEVE, the one does behind the DAY and the other does not; so one STATE and all
     * that is otherwise have the same one behind them, and no other has.
     */
    private static MoreThanHalf allOrNoneOf() {
        int[][] groups = { { 0, 1, 2, 3 }, { 1, 4, 5, 6 }, { 4, 7, 8, 9 }, { 7, 10, 11, 12 }, { 10, 13 } };
        int[] loud = { 7, 1, 2, 4 };
        int[][] hearers = { { 12, 13 }, { 10, 11 }, { 0, 1 }, { 2, 3 }, { 4, 5 } };
        MoreThanHalf x = Streets.alike(14, "n0,1");
        for (int g = 0; g < 5; g++) {
            for (int k = 0; k < groups[g].length; k++) {
                for (int hearer : hearers[g]) {
                    Streets.tell(x, groups[g][k] + ">" + hearer + "*" + (g == 4 ? 1 : loud[k]));
                }
            }
            x.set(hearers[g][0], 0, 49);
            x.set(hearers[g][1], 0, 50);
        }
        for (int i = 6; i < 10; i++) {
            Streets.tell(x, "0>" + i + "*1;1>" + i + "*1");
        }
        return x;
    }

    @Says(promise = 24, words = "NONE: bits of none such.")
    private static void twinsOfNoneSuch(Checks c) {
        int[] others = { 16, 17, 1 << 14, 1 << 30, -1, -16, Integer.MIN_VALUE, Integer.MAX_VALUE };
        for (int state : others) {
            Probe.refused(c, "twins(" + state + ")", x -> x.twins(state));
        }
        MoreThanHalf full = Streets.alike(14, "n1,1");
        c.due("all 14", full.twins(Streets.ALL_14), 0);
        c.due("14 of 14", full.twins(1 << 14), -1);
    }

    // ---- 25: first

    @Says(promise = 25, words = "STATES (FIRM ones as they are) to which none leads: how many")
    private static void toWhichNoneLeads(Checks c) {
        MoreThanHalf x = Streets.line();
        c.tells("1, 3, 4, 6", x, x.first(), 4, 1);
        MoreThanHalf star = star("n1,1");
        c.tells("all but 0 and all", star, star.first(), 16382, 1);
        MoreThanHalf firm = star("b1,1!");
        c.tells("all with 0 but all", firm, firm.first(), 8191, 1);
        MoreThanHalf against = star("n1,1!");
        c.tells("all without 0 but 0", against, against.first(), 8191, 2);
    }

    @Says(promise = 25, words = "the ROW: the least of them (none without).")
    private static void leastFirst(Checks c) {
        MoreThanHalf x = Streets.rings(14);
        x.rest();
        c.tells("none", x, x.first(), 0);
        MoreThanHalf y = Checks.of("n1,1;n1,1;1>0*1");
        c.tells("1 and 2", y, y.first(), 2, 1);
        MoreThanHalf z = Checks.of("n1,1;n1,1;0>1*1");
        c.tells("1 and 2, the other way", z, z.first(), 2, 1);
        MoreThanHalf firm = Checks.of("b1,1!;n1,1;n1,1;0>1*1;0>2*1");
        c.tells("1, 3, 5", firm, firm.first(), 3, 1);
    }

    // ---- 26: last

    @Says(promise = 26, words = "STATES (FIRM ones as they are) that come again for ever: how many")
    private static void comeAgainForEver(Checks c) {
        MoreThanHalf x = Streets.line();
        c.tells("0, 2, 5, 7", x, x.last(), 4, 2, 2);
        MoreThanHalf alone = Streets.alike(14, "n1,1");
        c.tells("all of 14 alone", alone, alone.last(), 16384, 16384, 1);
        MoreThanHalf firm = Streets.alike(14, "b1,1!");
        c.tells("one of 14 FIRM", firm, firm.last(), 1, 1, 1);
        MoreThanHalf half = star("b1,1!");
        c.tells("0 is FIRM", half, half.last(), 1, 1, 1);
    }

    @Says(promise = 26, words = "the ROW: how many of them rest, the most DAYS till one comes again.")
    private static void restOrMostDays(Checks c) {
        MoreThanHalf ring = Streets.rings(14);
        c.tells("nobody and all rest", ring, ring.last(), 16384, 2, 14);
        MoreThanHalf rings = Streets.rings(3, 4, 7);
        c.tells("84 DAYS", rings, rings.last(), 16384, 8, 84);
        MoreThanHalf pair = Streets.rings(2);
        c.tells("2 DAYS", pair, pair.last(), 4, 2, 2);
        MoreThanHalf none = Checks.of("n1,1;b1,1!;n1,1;1>0*1;2>0*1;0>2*1");
        c.tells("all rest", none, none.last(), 1, 1, 1);
    }

    // ---- 27: fates

    @Says(promise = 27, words = "From how many STATES (FIRM ones as they are) all PEOPLE BELIEVE on some DAY")
    private static void allOnSomeDay(Checks c) {
        MoreThanHalf x = Streets.line();
        c.tells("7; 0, 1, 4", x, x.fates(), 1, 3);
        MoreThanHalf star = star("n1,1");
        c.tells("half and half", star, star.fates(), 8192, 8192);
        MoreThanHalf firm = star("b1,1!");
        c.tells("0 is FIRM", firm, firm.fates(), 8192, 0);
        MoreThanHalf chain = Streets.chain(14);
        c.tells("a long way", chain, chain.fates(), 8192, 0);
    }

    @Says(promise = 27, words = "(that STATE itself is of DAY 0)")
    private static void itselfIsOfDay0(Checks c) {
        MoreThanHalf x = Streets.alike(14, "n1,1");
        c.tells("each STATE stays as it is", x, x.fates(), 1, 1);
        MoreThanHalf y = Checks.of("n1,1!;b1,1!");
        c.tells("neither all nor nobody", y, y.fates(), 0, 0);
        MoreThanHalf z = Checks.of("b1,1!");
        c.tells("all", z, z.fates(), 1, 0);
        MoreThanHalf w = Checks.of("n1,1!");
        c.tells("nobody", w, w.fates(), 0, 1);
    }

    @Says(promise = 27, words = "the ROW: from how many nobody does on some DAY.")
    private static void nobodyOnSomeDay(Checks c) {
        MoreThanHalf against = star("n1,1!");
        c.tells("0 is FIRM against", against, against.fates(), 0, 8192);
        MoreThanHalf ring = Streets.rings(14);
        c.tells("one of each", ring, ring.fates(), 1, 1);
        MoreThanHalf back = Checks.of("n99,1;n99,1;n99,1;1>0*1;2>1*1;0>2*1;1>2*1");
        c.tells("all but all, in some DAYS", back, back.fates(), 1, 7);
    }
}

/** The edges of promises 10 to 22, a test for each piece of the document. What is due was reckoned by hand. */
public final class DaysEdgesTest {
    public static void main(String[] args) throws Exception {
        Sentences.ask(DaysEdgesTest.class);
    }

    // ---- 10: state

    @Says(promise = 10, words = "The STATE of a DAY (0 .. DAYS).")
    private static void stateOfADay(Checks c) {
        MoreThanHalf x = Streets.rings(2);
        c.due("DAY 0 of none", x.state(0), 1);
        Streets.tell(x, "0-1*9");
        x.go(200);
        c.due("DAY 0", x.state(0), 1);
        c.due("DAY 1", x.state(1), 2);
        c.due("DAY 199", x.state(199), 2);
        c.due("DAY 200", x.state(200), 1);
    }

    @Says(promise = 10, words = "NONE: others.")
    private static void noSuchDay(Checks c) {
        int[] others = { -1, 4, 5, 200, 201, Integer.MIN_VALUE, Integer.MAX_VALUE };
        for (int day : others) {
            Probe.refused(c, "state(" + day + ") of DAYS 3", x -> x.state(day));
        }
        c.due("state(3) of DAYS 3", Probe.rich().state(3) >= 0, true);
        MoreThanHalf x = Streets.line();
        c.due("state(1) of DAYS 0", x.state(1), -1);
        x.go(200);
        c.due("state(201) of DAYS 200", x.state(201), -1);
        Streets.tell(x, "n1,1");
        c.due("state(1) when DAYS are 0 again", x.state(1), -1);
    }

    // ---- 11: go

    @Says(promise = 11, words = "n DAYS (0 .. 200) go by")
    private static void daysGoBy(Checks c) {
        MoreThanHalf x = Streets.line();
        x.go(0);
        c.due("DAYS behind go(0)", x.count(1), 0);
        x.go(1);
        c.due("DAYS behind go(1)", x.count(1), 1);
        MoreThanHalf y = Streets.line();
        y.go(200);
        c.due("DAYS behind go(200)", y.count(1), 200);
        MoreThanHalf z = Streets.line();
        z.go(199);
        c.due("DAYS behind go(199)", z.count(1), 199);
    }

    @Says(promise = 11, words = "(to 200 in all at most)")
    private static void daysStopAt200(Checks c) {
        MoreThanHalf x = Streets.rings(2);
        x.go(150);
        c.due("150 and 100: the STATE of DAY 200", x.go(100), 1);
        c.due("150 and 100", x.count(1), 200);
        c.due("200 and 1", x.go(1), 1);
        c.due("200 and 200", x.go(200), 1);
        c.due("200 and 0", x.go(0), 1);
        c.due("200 and more", x.count(1), 200);
        c.due("DAY 199 is as it was", x.state(199), 2);
        MoreThanHalf y = Streets.rings(2);
        y.go(199);
        c.due("199 and 1", y.go(1), 1);
        c.due("199 and 1", y.count(1), 200);
        MoreThanHalf z = Streets.rings(2);
        z.go(199);
        z.go(2);
        c.due("199 and 2", z.count(1), 200);
    }

    @Says(promise = 11, words = ": the STATE then.")
    private static void theStateThen(Checks c) {
        MoreThanHalf x = Streets.chain(14);
        c.due("go(0)", x.go(0), 1);
        c.due("go(1)", x.go(1), 3);
        c.due("go(11)", x.go(11), (1 << 13) - 1);
        c.due("go(1), all", x.go(1), Streets.ALL_14);
        c.due("go(187)", x.go(187), Streets.ALL_14);
    }

    @Says(promise = 11, words = "Refused: others.")
    private static void refusedToGo(Checks c) {
        int[] others = { -1, 201, 202, -200, Integer.MIN_VALUE, Integer.MAX_VALUE };
        for (int n : others) {
            Probe.refused(c, "go(" + n + ")", x -> x.go(n));
        }
    }

    // ---- 12: talk

    @Says(promise = 12, words = "PEOPLE told as bits who are not FIRM and do not BELIEVE BELIEVE now")
    private static void theyBelieveNow(Checks c) {
        MoreThanHalf x = Streets.alike(14, "n1,1");
        x.talk(0);
        c.due("nobody", x.state(0), 0);
        x.talk(1);
        c.due("the first", x.state(0), 1);
        x.talk(1 << 13);
        c.due("the last", x.state(0), 1 + (1 << 13));
        x.talk(Streets.ALL_14 - 1 - (1 << 13));
        c.due("all others", x.state(0), Streets.ALL_14);
        MoreThanHalf y = Streets.line();
        y.go(2);
        y.talk(6);
        c.due("now", y.state(2), 6);
        c.due("not on the DAYS ahead", y.state(0) * 10 + y.state(1), 10);
        c.due("no DAY went by", y.count(1), 2);
        c.due("the DAY that goes by then", y.go(1), 5);
    }

    @Says(promise = 12, words = "what it costs (the sum of their PRICES)")
    private static void whatItCosts(Checks c) {
        c.due("nobody", Streets.line().talk(0), 0);
        c.due("14 of the dearest", Streets.alike(14, "n1,9").talk(Streets.ALL_14), 126);
        c.due("14 for nothing", Streets.alike(14, "n1,0").talk(Streets.ALL_14), 0);
        c.due("two of three", Streets.line().talk(6), 3);
        MoreThanHalf x = Checks.of("n1,2");
        x.set(0, 1, 7);
        c.due("the PRICE now", x.talk(1), 7);
    }

    @Says(promise = 12, words = "all told have to be such.")
    private static void allToldHaveToBeSuch(Checks c) {
        MoreThanHalf x = Checks.of("b1,1;n1,1;n1,1!;b1,1!");
        int[] wrong = { 1, 4, 8, 1 + 2, 2 + 4, 2 + 8, 15 };
        for (int people : wrong) {
            c.due("talk(" + people + ")", x.talk(people), -1);
            c.due("nobody of " + people, x.state(0), 9);
        }
        c.due("talk(2)", x.talk(2), 1);
        c.due("talk(2) once more", x.talk(2), -1);
    }

    @Says(promise = 12, words = "Refused: others.")
    private static void refusedToTalk(Checks c) {
        int[] others = { 4, 16, 32, 1 << 14, 1 << 30, -1, -16, Integer.MIN_VALUE, Integer.MAX_VALUE };
        for (int people : others) {
            Probe.refused(c, "talk(" + people + ")", x -> x.talk(people));
        }
        MoreThanHalf full = Streets.alike(14, "n1,1");
        c.due("number 14 of 14", full.talk(1 << 14), -1);
        c.due("all 14 and one more", full.talk((1 << 15) - 1), -1);
        c.due("1 of nobody", new MoreThanHalf().talk(1), -1);
    }

    // ---- 13: behind

    @Says(promise = 13, words = "The STATE behind a STATE told as bits.")
    private static void stateBehind(Checks c) {
        MoreThanHalf x = Streets.line();
        int[] then = { 0, 0, 5, 5, 0, 2, 5, 7 };
        for (int s = 0; s < 8; s++) {
            c.due("behind(" + s + ")", x.behind(s), then[s]);
        }
        c.due("nothing changed", x.state(0), 1);
        MoreThanHalf full = Streets.rings(14);
        c.due("nobody of 14", full.behind(0), 0);
        c.due("all 14", full.behind(Streets.ALL_14), Streets.ALL_14);
        c.due("the last of 14", full.behind(1 << 13), 1 << 12);
        MoreThanHalf firm = Checks.of("b1,1!;n1,1");
        c.due("FIRM ones as they are told", firm.behind(2), 2);
    }

    @Says(promise = 13, words = "NONE: bits of none such.")
    private static void behindNoneSuch(Checks c) {
        int[] others = { 16, 17, 1 << 14, 1 << 30, -1, -16, Integer.MIN_VALUE, Integer.MAX_VALUE };
        for (int state : others) {
            Probe.refused(c, "behind(" + state + ")", x -> x.behind(state));
        }
        c.due("14 of 14", Streets.alike(14, "n1,1").behind(1 << 14), -1);
    }

    // ---- 14: rest

    @Says(promise = 14, words = "From now on, how many DAYS till the first STATE that comes again for ever: how many")
    private static void daysTillItComesAgain(Checks c) {
        MoreThanHalf x = Streets.chain(14);
        c.tells("13 DAYS", x, x.rest(), 13, 1, Streets.ALL_14, Streets.ALL_14);
        x.go(12);
        c.tells("1 DAY", x, x.rest(), 1, 1, Streets.ALL_14, Streets.ALL_14);
        x.go(1);
        c.tells("none", x, x.rest(), 0, 1, Streets.ALL_14, Streets.ALL_14);
        c.due("no DAY went by", x.count(1), 13);
        MoreThanHalf y = Streets.line();
        y.talk(2);
        c.tells("1 DAY, then for ever 5, 2", y, y.rest(), 1, 2, 5, 2);
        c.due("longer than 100", Streets.register(1).rest(), 170);
    }

    @Says(promise = 14, words = "the ROW: after how many DAYS it comes again (1: it rests)")
    private static void afterHowManyDays(Checks c) {
        int[][] rings = { { 2 }, { 3 }, { 14 }, { 3, 4, 7 }, { 7, 7 }, { 2, 12 } };
        int[] after = { 2, 3, 14, 84, 7, 12 };
        for (int k = 0; k < rings.length; k++) {
            MoreThanHalf x = Streets.rings(rings[k]);
            c.due("rings, " + k, x.rest(), 0);
            c.due("rings, " + k + ", come again", x.row(0), after[k]);
        }
        MoreThanHalf alone = Checks.of("b1,1");
        c.tells("it rests", alone, alone.rest(), 0, 1, 1, 1);
    }

    @Says(promise = 14, words = "that STATE, the least one (as a number) of those that come again.")
    private static void theLeastThatComesAgain(Checks c) {
        MoreThanHalf x = Streets.rings(14);
        x.go(3);
        c.tells("3 DAYS on", x, x.rest(), 0, 14, 1 << 11, 1);
        x.go(10);
        c.tells("13 DAYS on", x, x.rest(), 0, 14, 2, 1);
        MoreThanHalf y = Streets.line();
        y.talk(4);
        c.tells("5, then 2", y, y.rest(), 0, 2, 5, 2);
        y.go(1);
        c.tells("2, then 5", y, y.rest(), 0, 2, 2, 2);
        MoreThanHalf z = Streets.line();
        c.tells("a lesser one that comes never again does not count", z, z.rest(), 1, 1, 0, 0);
        MoreThanHalf w = Streets.chain(3);
        c.tells("nor does the first", w, w.rest(), 2, 1, 7, 7);
    }

    // ---- 15: fall

    @Says(promise = 15, words = "FALL of a DAY (1 .. DAYS)")
    private static void fallOfADay(Checks c) {
        MoreThanHalf x = Streets.line();
        x.talk(2);
        x.go(200);
        c.due("fall(1)", x.fall(1), 84);
        c.due("fall(2)", x.fall(2), -17);
        c.due("fall(199)", x.fall(199), -17);
        c.due("fall(200)", x.fall(200), -17);
    }

    @Says(promise = 15, words = "over all PEOPLE (2 times NEED times ALL, and 1), once if it BELIEVED on it, and once if on the DAY ahead")
    private static void onceForEachDay(Checks c) {
        MoreThanHalf x = Checks.of("n0,1;n0,1;b0,1!;n99,1;n99,1;0>1*1;2>3*9;4>3*9");
        x.talk(1);
        x.go(1);
        // 0 and 2 hear nobody; 1 hears 0 alone; 3 hears 2 and 4.
        c.due("STATES", x.state(0) * 100 + x.state(1), 507);
        c.due("1 BELIEVED on it alone: 1, less 200", x.fall(1), 1 - 200);
        x.talk(16);
        x.go(1);
        c.due("STATES", x.state(1) * 100 + x.state(2), 2300 + 31);
        c.due("1 on both, 3 on it: 2 and 2 * 99 * 18 + 1, less 200 * (1 + 18)", x.fall(2), 2 + 3565 - 3800);
        MoreThanHalf y = Streets.rings(2);
        y.sheet(2, 2, 0, 99);
        y.go(1);
        c.due("on the DAY ahead: 1; on it: 199; less 200", y.fall(1), 1 + 199 - 200);
        MoreThanHalf none = Checks.of("n1,1;n1,1;0-1*9");
        none.go(1);
        c.due("nobody", none.fall(1), 0);
    }

    @Says(promise = 15, words = "less 200 times, over all pairs (one, other), how loud the one hears the other, "
        + "if the one BELIEVED on it and the other on the DAY ahead")
    private static void lessTwoHundredTimes(Checks c) {
        MoreThanHalf x = Checks.of("b50,1;n0,1;0>1*4");
        x.go(1);
        c.due("1 hears 0 of the DAY ahead", x.fall(1), 1 - 800);
        MoreThanHalf y = Checks.of("n50,1;b0,1;n0,1!;0>1*4;2>1*1");
        y.talk(1);
        y.go(1);
        c.due("STATES", y.state(0) * 10 + y.state(1), 33);
        c.due("0 does not hear 1", y.fall(1), 2 - 800);
        MoreThanHalf full = Streets.alike(14, "b99,1");
        for (int i = 0; i < 14; i++) {
            for (int j = 0; j < i; j++) {
                Streets.tell(full, i + "-" + j + "*9");
            }
        }
        full.go(1);
        c.due("14 of 14, as loud as can be", full.fall(1), 28 * (2 * 99 * 117 + 1) - 200 * 14 * 117);
    }

    @Says(promise = 15, words = "(of FIRM ones and those of whom ALL is 0 nothing of the first; but all pairs)")
    private static void nothingOfTheFirst(Checks c) {
        MoreThanHalf firm = Checks.of("b99,1!;b99,1!;0-1*3");
        firm.go(1);
        c.due("two FIRM ones", firm.fall(1), -200 * 6);
        MoreThanHalf alone = Checks.of("b99,1;b99,1");
        alone.go(1);
        c.due("two whose ALL is 0", alone.fall(1), 0);
        MoreThanHalf one = Checks.of("b99,1;b99,1!;1>0*1");
        one.go(1);
        c.due("one of them is not", one.fall(1), 2 * 199 - 200);
    }

    @Says(promise = 15, words = "NONE: others.")
    private static void noFall(Checks c) {
        int[] others = { 0, -1, 4, 200, 201, Integer.MIN_VALUE, Integer.MAX_VALUE };
        for (int day : others) {
            Probe.refused(c, "fall(" + day + ") of DAYS 3", x -> x.fall(day));
        }
        MoreThanHalf x = Streets.line();
        c.due("fall(1) of DAYS 0", x.fall(1), -1);
        x.talk(2);
        x.go(1);
        c.due("fall(1) of DAYS 1", x.fall(1), 84);
        c.due("fall(2) of DAYS 1", x.fall(2), -1);
        x.go(199);
        c.due("fall(201) of DAYS 200", x.fall(201), -1);
    }

    // ---- 16: falls

    @Says(promise = 16, words = "FALL of DAY 1 less FALL of DAY DAYS (0, if DAYS are fewer than 2)")
    private static void fewerThanTwoDays(Checks c) {
        MoreThanHalf x = Streets.line();
        x.talk(2);
        c.tells("DAYS 0", x, x.falls(), 0, -1, -1);
        x.go(1);
        c.tells("DAYS 1", x, x.falls(), 0, -1, -1);
        x.go(1);
        c.tells("DAYS 2", x, x.falls(), 84 + 17, -1, -1);
        x.go(198);
        c.tells("DAYS 200", x, x.falls(), 84 + 17, 3, -1);
    }

    @Says(promise = 16, words = "the ROW: the first DAY (2 .. DAYS) on which FALL was not less than on the DAY ahead (NONE)")
    private static void firstNotLess(Checks c) {
        MoreThanHalf x = Streets.rings(2);
        x.go(2);
        c.tells("equal on DAY 2, the last", x, x.falls(), 0, 2, -1);
        x.go(1);
        c.tells("the first of two", x, x.falls(), 0, 2, -1);
        MoreThanHalf y = Streets.line();
        y.talk(2);
        y.go(2);
        c.tells("less on each", y, y.falls(), 101, -1, -1);
        y.go(1);
        c.tells("equal on DAY 3, the last", y, y.falls(), 101, 3, -1);
        MoreThanHalf one = Checks.of("b0,1;n0,1!;1>0*1");
        one.go(2);
        c.tells("1, 0: less by one", one, one.falls(), 1, -1, -1);
    }

    @Says(promise = 16, words = "the first on which it was more (NONE).")
    private static void firstMore(Checks c) {
        MoreThanHalf x = Streets.line();
        x.go(2);
        x.talk(6);
        c.tells("101, 282", x, x.falls(), 101 - 282, 2, 2);
        x.go(1);
        c.tells("101, 282, 64", x, x.falls(), 101 - 64, 2, 2);
        MoreThanHalf y = Streets.line();
        y.talk(2);
        y.go(4);
        c.tells("84, -17, -17, -17", y, y.falls(), 101, 3, -1);
        y.talk(5);
        c.tells("84, -17, -17, 165: equal ahead of more", y, y.falls(), 84 - 165, 3, 4);
        MoreThanHalf one = Checks.of("n0,1;n0,1!;1>0*1");
        one.go(2);
        one.talk(1);
        c.tells("0, 1: more by one", one, one.falls(), -1, 2, 2);
    }

    // ---- 17: swings

    @Says(promise = 17, words = "PEOPLE (bits) who are not the same in all STATES that come again for ever from now on")
    private static void whoSwings(Checks c) {
        MoreThanHalf all = Streets.rings(14);
        c.tells("all 14", all, all.swings(), Streets.ALL_14, 0);
        MoreThanHalf none = Streets.chain(14);
        c.tells("who comes to BELIEVE does not swing", none, none.swings(), 0, Streets.ALL_14);
        MoreThanHalf line = Streets.line();
        line.talk(2);
        c.tells("3, then for ever 5, 2", line, line.swings(), 7, 0);
        MoreThanHalf part = Checks.of("b50,1;n50,1;b50,1;n50,1!;0-1*1");
        c.tells("two of four", part, part.swings(), 3, 4);
    }

    @Says(promise = 17, words = "the ROW: those who BELIEVE in all of them.")
    private static void whoAlwaysBelieves(Checks c) {
        MoreThanHalf x = Streets.line();
        c.tells("nobody", x, x.swings(), 0, 0);
        x.talk(6);
        c.tells("all", x, x.swings(), 0, 7);
        MoreThanHalf y = Checks.of("b50,1!;b50,1;n50,1;n50,1;0>1*1;2-3*1");
        y.talk(8);
        c.tells("a FIRM one and who hears it, the others as well", y, y.swings(), 12, 3);
        MoreThanHalf ring = Checks.of("b50,1;b50,1;n50,1;1>0*1;2>1*1;0>2*1");
        c.tells("two of three at a time, none of them always", ring, ring.swings(), 7, 0);
    }

    // ---- 18: otherwise

    @Says(promise = 18, words = "If one who is not FIRM was otherwise now than it is")
    private static void ifOneWasOtherwise(Checks c) {
        MoreThanHalf x = Checks.of("b50,1;n50,1;n50,1;0>1*1;1>2*1");
        c.due("who BELIEVES", x.otherwise(0, 2), 7);
        c.due("who does not", x.otherwise(1, 1), 4);
        c.due("whose own DAY comes first", x.otherwise(2, 1), 0);
        c.due("nothing changed", x.state(0), 1);
        c.due("DAYS", x.count(1), 0);
    }

    @Says(promise = 18, words = "PEOPLE (bits) who would be otherwise behind n DAYS (0 .. 200).")
    private static void otherwiseBehindDays(Checks c) {
        MoreThanHalf x = Streets.line();
        int[][] due = { { 0, 2 }, { 1, 5 }, { 2, 2 }, { 199, 5 }, { 200, 2 } };
        for (int[] d : due) {
            c.due("otherwise(1, " + d[0] + ")", x.otherwise(1, d[0]), d[1]);
        }
        MoreThanHalf ring = Streets.rings(14);
        c.due("13 of 14, now", ring.otherwise(13, 0), 1 << 13);
        c.due("13 of 14, behind 13 DAYS", ring.otherwise(13, 13), 1);
        c.due("13 of 14, behind 200 DAYS", ring.otherwise(13, 200), 1 << 9);
    }

    @Says(promise = 18, words = "NONE: FIRM, others.")
    private static void notOtherwise(Checks c) {
        int[][] wrong = { { 2, 0 }, { 2, 200 }, { 4, 1 }, { -1, 1 }, { 14, 1 }, { 32, 1 }, { 0, -1 }, { 0, 201 },
            { Integer.MIN_VALUE, 1 }, { Integer.MAX_VALUE, 1 }, { 0, Integer.MIN_VALUE }, { 0, Integer.MAX_VALUE } };
        for (int[] w : wrong) {
            Probe.refused(c, "otherwise(" + w[0] + ", " + w[1] + ")", x -> x.otherwise(w[0], w[1]));
        }
        c.due("0 of nobody", new MoreThanHalf().otherwise(0, 0), -1);
        MoreThanHalf full = Streets.more(Streets.alike(13, "n1,1"), 1, "n1,1!");
        c.due("12 of 14", full.otherwise(12, 0), 1 << 12);
        c.due("13 of 14, FIRM", full.otherwise(13, 0), -1);
    }

    // ---- 19: onebyone

    /** Each hears the next one, the last one is FIRM and BELIEVES. */
    private static MoreThanHalf backwards(int people) {
        MoreThanHalf x = Streets.more(Streets.alike(people - 1, "n50,1"), 1, "b50,1!");
        for (int i = 1; i < people; i++) {
            Streets.tell(x, i + ">" + (i - 1) + "*1");
        }
        return x;
    }

    @Says(promise = 19, words = "One by one, in order of their numbers, round by round")
    private static void inOrderOfTheirNumbers(Checks c) {
        MoreThanHalf x = Streets.chain(14);
        c.tells("each hears the one ahead: one round", x, x.onebyone(), 1, Streets.ALL_14, 13);
        MoreThanHalf y = backwards(14);
        c.tells("each hears the next one: a round each", y, y.onebyone(), 13, Streets.ALL_14, 13);
    }

    @Says(promise = 19, words = "each takes up at once what it would on a DAY, of all as they are then")
    private static void atOnce(Checks c) {
        MoreThanHalf x = Streets.rings(2);
        c.tells("0 stops, so that 1 does not begin", x, x.onebyone(), 1, 0, 1);
        MoreThanHalf y = Checks.of("n50,1;b50,1;0-1*1");
        c.tells("0 begins, so that 1 does not stop", y, y.onebyone(), 1, 3, 1);
        MoreThanHalf z = Checks.of("b99,1!;n99,1!;b99,1;n99,1;1>0*1;0>1*1");
        c.tells("FIRM ones and those who hear nobody stay", z, z.onebyone(), 0, 5, 0);
    }

    @Says(promise = 19, words = "till a round changes nothing: how many rounds changed something")
    private static void tillARoundChangesNothing(Checks c) {
        MoreThanHalf x = Streets.line();
        x.talk(6);
        c.tells("none", x, x.onebyone(), 0, 7, 0);
        MoreThanHalf y = backwards(2);
        c.tells("one", y, y.onebyone(), 1, 3, 1);
        MoreThanHalf z = backwards(3);
        c.tells("two", z, z.onebyone(), 2, 7, 2);
    }

    @Says(promise = 19, words = "the ROW: the STATE then, how many changed in all (each time).")
    private static void eachTime(Checks c) {
        MoreThanHalf x = Checks.of("n50,1;b50,1;n50,1;1>0*1;2>1*1");
        // 0 begins, 1 stops; then 0 stops.
        c.tells("0 twice, 1 once", x, x.onebyone(), 2, 0, 3);
        c.due("the STATE now is not that STATE", x.state(0), 2);
    }

    /** A register as it is behind so many rounds, and how many more change something. */
    private static MoreThanHalf registerBehind(int rounds) {
        boolean[] believes = new boolean[14];
        believes[1] = true;
        for (int round = 0; round < rounds; round++) {
            for (int i = 0; i < 13; i++) {
                believes[i] = believes[i + 1];
            }
            believes[13] = believes[0] || believes[1];
        }
        int state = 0;
        for (int i = 0; i < 14; i++) {
            state |= believes[i] ? 1 << i : 0;
        }
        return Streets.register(state);
    }

    @Says(promise = 19, words = "-2: not within 100 rounds that change something.")
    private static void notWithin100Rounds(Checks c) {
        // Of 146 rounds from the first STATE on; the last round changes 13 alone.
        int[] rounds = { 145, 146, 144, 47, 46 };
        int[] due = { 1, 0, 2, 99, 100 };
        for (int k = 0; k < rounds.length; k++) {
            MoreThanHalf x = registerBehind(rounds[k]);
            c.due("behind " + rounds[k] + " rounds", x.onebyone(), due[k]);
            c.due("all BELIEVE then", x.row(0), Streets.ALL_14);
        }
        MoreThanHalf x = registerBehind(45);
        x.part(0);
        c.tells("101 rounds", x, x.onebyone(), -2, 1);
        MoreThanHalf never = Checks.of("n0,0;b0,0;n0,0;1>0*1;2>1*1;0>2*1");
        never.part(0);
        c.tells("never", never, never.onebyone(), -2, 1);
    }

    @Says(promise = 19, words = "Nothing changes.")
    private static void onebyoneChangesNothing(Checks c) {
        Probe.onlyTells(c, "onebyone()", MoreThanHalf::onebyone);
        MoreThanHalf x = backwards(3);
        x.onebyone();
        c.due("STATE", x.state(0), 4);
        c.due("DAYS", x.count(1), 0);
    }

    // ---- 20: level

    @Says(promise = 20, words = "The greatest NEED (0 .. 99) which, if all had it, lets all BELIEVE")
    private static void greatestNeed(Checks c) {
        MoreThanHalf x = Checks.of("b0,1!;n0,1;0>1*1");
        c.tells("99", x, x.level(20), 99, 1);
        MoreThanHalf y = Streets.more(Checks.of("b99,1!"), 12, "n99,1");
        for (int i = 1; i < 12; i++) {
            Streets.tell(y, "12>" + i + "*1");
            Streets.tell(y, i + ">12*9");
        }
        Streets.tell(y, "0>12*1");
        // 12 hears 0 as 1 of 100: not above 1 * 100.
        c.tells("0", y, y.level(20), 0, 2);
        Streets.tell(y, "1>12*8");
        c.tells("1: 100 is above 99", y, y.level(20), 1, 2);
        MoreThanHalf z = Checks.of("b50,1!;n50,1;n50,1!;0>1*1;2>1*1");
        c.due("one FIRM against", z.level(20), -2);
        MoreThanHalf now = Streets.alike(14, "b0,1");
        c.tells("all BELIEVE now", now, now.level(0), 99, 0);
    }

    @Says(promise = 20, words = "on one same DAY of the first n (0 .. 20) from now")
    private static void onOneSameDayOfTheFirst(Checks c) {
        MoreThanHalf x = Streets.chain(14);
        c.due("12 DAYS", x.level(12), -2);
        c.tells("13 DAYS", x, x.level(13), 99, 13);
        c.tells("20 DAYS", x, x.level(20), 99, 13);
        x.go(12);
        c.due("now: one is missing", x.level(0), -2);
        c.tells("from now on", x, x.level(1), 99, 1);
        x.go(1);
        c.tells("now", x, x.level(0), 99, 0);
        MoreThanHalf long170 = Streets.register(1);
        long170.go(150);
        c.tells("20 of 20", long170, long170.level(20), 49, 20);
        c.due("20 of 19", long170.level(19), -2);
        MoreThanHalf longer = Streets.register(1);
        longer.go(149);
        c.due("21 of 20", longer.level(20), -2);
        MoreThanHalf turns = Streets.rings(2);
        c.due("by turns, never on one same DAY", turns.level(20), -2);
    }

    @Says(promise = 20, words = "the ROW: the first such DAY by it.")
    private static void firstDayByIt(Checks c) {
        MoreThanHalf x = Checks.of("b50,1!;n50,1;n50,1;0>1*1;2>1*3;0>2*1");
        c.tells("24 in one DAY", x, x.level(1), 24, 1);
        c.tells("99 in two", x, x.level(2), 99, 2);
        c.tells("99 in 20", x, x.level(20), 99, 2);
    }

    @Says(promise = 20, words = "-2: not even 0")
    private static void notEven0(Checks c) {
        MoreThanHalf x = Streets.alike(14, "n0,1");
        x.part(0);
        c.tells("nobody to hear", x, x.level(20), -2, 14);
        MoreThanHalf y = Checks.of("b0,1!;n0,1!");
        c.due("a FIRM one does not", y.level(20), -2);
    }

    @Says(promise = 20, words = "NONE: another n.")
    private static void noLevel(Checks c) {
        int[] others = { -1, 21, Integer.MIN_VALUE, Integer.MAX_VALUE };
        for (int n : others) {
            Probe.refused(c, "level(" + n + ")", x -> x.level(n));
        }
    }

    @Says(promise = 20, words = "Nothing changes.")
    private static void levelChangesNothing(Checks c) {
        Probe.onlyTells(c, "level(20)", x -> x.level(20));
        Probe.onlyTells(c, "level(0)", x -> x.level(0));
        MoreThanHalf x = Checks.of("b50,1!;n50,1;n50,1!;0>1*1;2>1*1");
        x.level(20);
        c.due("a DAY goes by as ahead of it", x.behind(1), 1);
        x.set(1, 0, 49);
        x.level(20);
        c.due("a DAY goes by as ahead of it", x.behind(1), 3);
    }

    // ---- 21: hops

    @Says(promise = 21, words = "How many steps word goes from one to another one (each who hears the one ahead at all), at least: how many")
    private static void howManySteps(Checks c) {
        MoreThanHalf x = Streets.chain(14);
        c.tells("13 steps", x, x.hops(0, 13), 13, 1, 2, 3, 4, 5, 6, 7, 8, 9, 10, 11, 12);
        c.tells("1 step", x, x.hops(12, 13), 1);
        Streets.tell(x, "13>0*1");
        c.tells("from the last to the first", x, x.hops(13, 0), 1);
        c.tells("all but one step of a ring", x, x.hops(1, 0), 13, 2, 3, 4, 5, 6, 7, 8, 9, 10, 11, 12, 13);
        Streets.tell(x, "0>12*9");
        c.tells("a shorter way", x, x.hops(0, 13), 2, 12);
        Streets.tell(x, "0>12*0");
        c.due("LOUD 0 is no way", x.hops(0, 13), 13);
    }

    @Says(promise = 21, words = "the ROW: who passes it on, in order: of as few the least row.")
    private static void whoPassesItOn(Checks c) {
        MoreThanHalf x = Checks.of("n1,1;n1,1;n1,1;n1,1;n1,1;n1,1;0>1*9;0>2*1;2>3*1;3>5*1;2>4*9;4>5*9");
        c.tells("2, 3 and 2, 4", x, x.hops(0, 5), 3, 2, 3);
        Streets.tell(x, "1>4*1");
        c.tells("1, 4 too", x, x.hops(0, 5), 3, 1, 4);
        Streets.tell(x, "2>5*1");
        c.tells("fewer comes first", x, x.hops(0, 5), 2, 2);
    }

    @Says(promise = 21, words = "0: the same")
    private static void theSame(Checks c) {
        MoreThanHalf x = Streets.chain(14);
        c.tells("13 and 13", x, x.hops(13, 13), 0);
        c.tells("0 and 0", x, x.hops(0, 0), 0);
        MoreThanHalf alone = Checks.of("n1,1");
        c.tells("one alone", alone, alone.hops(0, 0), 0);
    }

    @Says(promise = 21, words = "-2: never")
    private static void neverHeard(Checks c) {
        MoreThanHalf x = Streets.chain(14);
        c.due("against the way word goes", x.hops(1, 0), -2);
        c.due("from the last", x.hops(13, 12), -2);
        c.due("two alone", Checks.of("n1,1;n1,1").hops(0, 1), -2);
        x.part(0);
        c.tells("it tells nothing", x, x.hops(13, 0), -2, 1);
    }

    @Says(promise = 21, words = "NONE: none such.")
    private static void noSuchHops(Checks c) {
        int[][] wrong = { { 4, 0 }, { 0, 4 }, { -1, 0 }, { 0, -1 }, { 4, 4 }, { -1, -1 }, { 14, 0 }, { 0, 32 } };
        for (int[] w : wrong) {
            Probe.refused(c, "hops(" + w[0] + ", " + w[1] + ")", x -> x.hops(w[0], w[1]));
        }
        for (int far : Streets.FAR) {
            Probe.refused(c, "hops(" + far + ", 0)", x -> x.hops(far, 0));
            Probe.refused(c, "hops(0, " + far + ")", x -> x.hops(0, far));
        }
        c.due("0 of nobody", new MoreThanHalf().hops(0, 0), -1);
        c.due("14 of 14", Streets.alike(14, "n1,1").hops(14, 14), -1);
    }

    // ---- 22: part

    @Says(promise = 22, words = "PEOPLE (bits) who hang together with one by hearing, either way, and so on (itself, too)")
    private static void whoHangsTogether(Checks c) {
        MoreThanHalf x = Streets.chain(14);
        c.due("all 14 of a chain, from the last", x.part(13), Streets.ALL_14);
        c.due("all 14 of a chain, from the first", x.part(0), Streets.ALL_14);
        MoreThanHalf y = Checks.of("n1,1;n1,1;n1,1;n1,1;0>2*1;3>2*9");
        c.due("two whom one hears", y.part(0), 13);
        c.due("alone", y.part(1), 2);
        MoreThanHalf z = Checks.of("n1,1;n1,1;n1,1;2>0*1;2>1*1");
        c.due("two who hear one", z.part(1), 7);
        MoreThanHalf alone = Streets.alike(14, "n1,1");
        c.due("the last of 14, alone", alone.part(13), 1 << 13);
    }

    @Says(promise = 22, words = "the ROW: how many such parts the street has.")
    private static void howManyParts(Checks c) {
        MoreThanHalf x = Streets.alike(14, "n1,1");
        c.tells("14 alone", x, x.part(0), 1, 14);
        Streets.tell(x, "0>13*1");
        c.tells("two of them together", x, x.part(13), 1 + (1 << 13), 13);
        MoreThanHalf y = Streets.chain(14);
        c.tells("one", y, y.part(5), Streets.ALL_14, 1);
        Streets.tell(y, "6>7*0");
        c.tells("two", y, y.part(6), 127, 2);
        MoreThanHalf alone = Checks.of("n1,1");
        c.tells("one alone", alone, alone.part(0), 1, 1);
    }

    @Says(promise = 22, words = "NONE: none such.")
    private static void noSuchPart(Checks c) {
        int[] wrong = { 4, -1, 14, 32, Integer.MIN_VALUE, Integer.MAX_VALUE };
        for (int i : wrong) {
            Probe.refused(c, "part(" + i + ")", x -> x.part(i));
        }
        c.due("0 of nobody", new MoreThanHalf().part(0), -1);
        c.due("14 of 14", Streets.alike(14, "n1,1").part(14), -1);
    }
}

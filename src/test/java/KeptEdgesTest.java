/** The edges of promises 42 to 48, a test for each piece of the document. What is due was reckoned by hand. */
public final class KeptEdgesTest {
    public static void main(String[] args) throws Exception {
        Sentences.ask(KeptEdgesTest.class);
    }

    // ---- 42: change

    @Says(promise = 42, words = "The fewest pairs of PEOPLE (1, 2)")
    private static void fewestPairs(Checks c) {
        MoreThanHalf x = Checks.of("b50,1!;n50,1;n50,1");
        c.tells("two", x, x.change(1), 2, 0, 1, 0, 2);
        x.meet(0, 1, 1);
        c.tells("one", x, x.change(1), 1, 0, 2);
        x.meet(0, 2, 1);
        c.tells("none", x, x.change(1), 0);
        c.due("three", Checks.of("b50,1!;n50,1;n50,1;n50,1").change(20), -2);
        MoreThanHalf full = Streets.more(Streets.alike(12, "b50,1"), 1, "b50,1!");
        Streets.tell(full, "n50,1");
        // Another one than 12 would stop when it hears 13.
        c.tells("the last pair of 14", full, full.change(1), 1, 12, 13);
        MoreThanHalf last = Streets.more(Streets.alike(11, "b50,1"), 1, "b50,1!");
        Streets.more(last, 2, "n50,1");
        c.tells("the last two pairs of 14", last, last.change(1), 2, 11, 12, 11, 13);
    }

    @Says(promise = 42, words = "whose acquaintance is made (both hear each other as loud as 1, if neither heard the other)")
    private static void made(Checks c) {
        MoreThanHalf both = Checks.of("b50,1;n50,1");
        c.due("both hear each other, by turns", both.change(20), -2);
        MoreThanHalf x = Checks.of("b50,1!;n49,1;n50,1;0>2*1;2>1*1");
        c.tells("as loud as 1: half is above NEED 49", x, x.change(1), 1, 0, 1);
        x.set(1, 0, 50);
        c.tells("not above NEED 50, so that another one is ended", x, x.change(1), 2, 0, 1, 1, 2);
        Streets.tell(x, "2>1*2");
        x.set(1, 0, 33);
        c.tells("a third is above NEED 33", x, x.change(1), 1, 0, 1);
        c.due("nothing changed", x.hears(0, 1) + x.hears(1, 0), 0);
    }

    @Says(promise = 42, words = "or ended (else; both 0)")
    private static void ended(Checks c) {
        MoreThanHalf x = Checks.of("b50,1!;n50,1;n50,1;0>1*1;1-2*3;0>2*3");
        c.tells("both ways", x, x.change(1), 1, 1, 2);
        MoreThanHalf y = Checks.of("b50,1!;n50,1;b50,1;0>1*1;2>1*1;1>2*1");
        y.meet(1, 2, 0);
        Streets.tell(y, "1>2*9");
        c.tells("one way, the lower one heard", y, y.change(1), 1, 1, 2);
        MoreThanHalf z = Checks.of("b50,1!;b50,1;n50,1;2>1*1;0>2*1");
        c.tells("one way, the higher one heard", z, z.change(1), 1, 1, 2);
        MoreThanHalf back = Checks.of("b50,1!;n50,1;1>0*1");
        c.due("what one hears of the other is ended, not made", back.change(20), -2);
        c.due("nothing changed", x.hears(1, 2) * 10 + x.hears(2, 1), 33);
    }

    @Says(promise = 42, words = "so that all BELIEVE on one same DAY of the first n (0 .. 20) from now: how many")
    private static void onOneSameDay(Checks c) {
        MoreThanHalf x = Checks.of("b50,1!;n50,1;n50,1;1>2*1");
        c.due("not now", x.change(0), -2);
        c.due("not in one DAY", x.change(1), -2);
        c.tells("in two", x, x.change(2), 1, 0, 1);
        c.tells("in 20", x, x.change(20), 1, 0, 1);
        MoreThanHalf now = Streets.alike(14, "b50,1");
        c.tells("now", now, now.change(0), 0);
        MoreThanHalf long170 = Streets.register(1);
        long170.go(150);
        c.tells("20 of 20", long170, long170.change(20), 0);
        c.due("20 of 19", long170.change(19) != 0, true);
        MoreThanHalf turns = Streets.rings(2);
        c.due("by turns, or never", turns.change(20), -2);
        c.due("no DAY went by", x.count(1), 0);
    }

    @Says(promise = 42, words = "the ROW: the pairs (a below b each): of as few the least row.")
    private static void leastRowOfPairs(Checks c) {
        MoreThanHalf x = Checks.of("b50,1!;b50,1!;n50,1;n50,1");
        c.tells("two of two each", x, x.change(1), 2, 0, 2, 0, 3);
        c.tells("the same in 20 DAYS, as no lesser pair helps", x, x.change(20), 2, 0, 2, 0, 3);
        x.meet(0, 3, 1);
        c.tells("one of two", x, x.change(1), 1, 0, 2);
        MoreThanHalf y = Checks.of("n50,1;n50,1;b50,1!");
        c.tells("a below b", y, y.change(1), 2, 0, 2, 1, 2);
        MoreThanHalf z = Checks.of("n50,1;n50,1;b50,1!;0>1*1");
        c.tells("one that is fewer, though 0, 1 is less", z, z.change(2), 1, 0, 2);
    }

    @Says(promise = 42, words = "0: it is so without (the ROW is empty)")
    private static void soWithout(Checks c) {
        MoreThanHalf x = Streets.chain(14);
        x.rest();
        c.tells("in 13 DAYS", x, x.change(13), 0);
        c.due("not in 12", x.change(12) > 0, true);
        MoreThanHalf nobody = new MoreThanHalf();
        nobody.rest();
        c.tells("of nobody", nobody, nobody.change(0), 0);
        MoreThanHalf alone = Checks.of("b1,1");
        alone.rest();
        c.tells("of one alone", alone, alone.change(0), 0);
    }

    @Says(promise = 42, words = "-2: two do not do; NONE: another n.")
    private static void twoDoNotDo(Checks c) {
        MoreThanHalf x = Checks.of("b50,1!;n50,1;n50,1!");
        x.part(0);
        c.tells("a FIRM one against", x, x.change(20), -2, 3);
        c.due("one alone", Checks.of("n1,1").change(20), -2);
        int[] others = { -1, 21, 22, Integer.MIN_VALUE, Integer.MAX_VALUE };
        for (int n : others) {
            Probe.refused(c, "change(" + n + ")", y -> y.change(n));
        }
        Probe.onlyTells(c, "change(20)", y -> y.change(20));
        Probe.onlyTells(c, "change(0)", y -> y.change(0));
    }

    // ---- 43: single

    @Says(promise = 43, words = "Such pairs by which alone it is so: how many; the ROW: how many of them are made.")
    private static void pairsAlone(Checks c) {
        MoreThanHalf all = Streets.alike(14, "b50,1");
        c.tells("all 91 pairs of 14, made", all, all.single(0), 91, 91);
        Streets.tell(all, "0-1*1;12>13*9");
        c.tells("two of them ended", all, all.single(20), 91, 89);
        MoreThanHalf none = Checks.of("b50,1!;n50,1!");
        c.tells("none", none, none.single(20), 0, 0);
        MoreThanHalf x = Checks.of("b50,1!;n50,1;n50,1;1>2*1");
        c.tells("none in one DAY", x, x.single(1), 0, 0);
        c.tells("one in two", x, x.single(2), 1, 1);
        MoreThanHalf y = Checks.of("b50,1!;n50,1;n50,1;0>1*1;1-2*3;0>2*3");
        c.tells("one ended", y, y.single(1), 1, 0);
        MoreThanHalf two = Checks.of("b50,1!;b50,1!;n50,1");
        c.tells("one of two", two, two.single(1), 2, 2);
        MoreThanHalf nobody = new MoreThanHalf();
        c.tells("of nobody", nobody, nobody.single(20), 0, 0);
        c.due("with FIRM ones there are none", Checks.of("n1,1!;b1,1").single(20), 0);
    }

    @Says(promise = 43, words = "NONE: another n.")
    private static void noSingle(Checks c) {
        int[] others = { -1, 21, 22, Integer.MIN_VALUE, Integer.MAX_VALUE };
        for (int n : others) {
            Probe.refused(c, "single(" + n + ")", x -> x.single(n));
        }
        Probe.onlyTells(c, "single(20)", x -> x.single(20));
        Probe.onlyTells(c, "single(0)", x -> x.single(0));
    }

    // ---- 44: meet

    @Says(promise = 44, words = "LOUD of two (both ways) becomes v (0 .. 9): what the one heard the other.")
    private static void bothWays(Checks c) {
        MoreThanHalf x = Streets.alike(14, "n1,1");
        c.due("9, nobody heard", x.meet(0, 13, 9), 0);
        c.due("both", x.hears(0, 13) * 10 + x.hears(13, 0), 99);
        Streets.tell(x, "0>13*4");
        c.due("0, what 13 heard 0", x.meet(13, 0, 0), 4);
        c.due("none", x.hears(0, 13) + x.hears(13, 0), 0);
        Streets.tell(x, "0>13*4");
        c.due("1, what 0 heard 13", x.meet(0, 13, 1), 0);
        c.due("both", x.hears(0, 13) * 10 + x.hears(13, 0), 11);
        c.due("the same again", x.meet(0, 13, 1), 1);
        MoreThanHalf y = Checks.of("b1,1!;n1,1");
        c.due("ahead of it", y.behind(1), 1);
        y.meet(1, 0, 1);
        c.due("a DAY goes by with it at once", y.behind(1), 3);
        c.due("DAYS stay", y.count(1), 0);
    }

    @Says(promise = 44, words = "Refused: others, like ones.")
    private static void refusedToMeet(Checks c) {
        int[][] wrong = { { 0, 0, 1 }, { 3, 3, 0 }, { 4, 0, 1 }, { 0, 4, 1 }, { -1, 0, 1 }, { 0, -1, 1 }, { 4, 4, 1 }, { 0, 1, -1 },
            { 0, 1, 10 } };
        for (int[] w : wrong) {
            Probe.refused(c, "meet(" + w[0] + ", " + w[1] + ", " + w[2] + ")", x -> x.meet(w[0], w[1], w[2]));
        }
        for (int far : Streets.FAR) {
            Probe.refused(c, "meet(" + far + ", 1, 1)", x -> x.meet(far, 1, 1));
            Probe.refused(c, "meet(0, " + far + ", 1)", x -> x.meet(0, far, 1));
            Probe.refused(c, "meet(0, 1, " + far + ")", x -> x.meet(0, 1, far));
        }
        c.due("14 of 14", Streets.alike(14, "n1,1").meet(0, 14, 1), -1);
        c.due("of nobody", new MoreThanHalf().meet(0, 1, 1), -1);
    }

    // ---- 45: keep

    @Says(promise = 45, words = "DAYS and their STATES, who hears whom how loud, NEEDS are kept under a number 0 .. 1: true.")
    private static void kept(Checks c) {
        MoreThanHalf x = Streets.rings(2);
        c.due("under 0", x.keep(0), true);
        x.go(200);
        x.set(1, 0, 99);
        x.meet(0, 1, 9);
        c.due("under 1", x.keep(1), true);
        c.due("0 again", x.again(0), true);
        c.due("DAYS of 0", x.count(1), 0);
        c.due("STATE of 0", x.state(0), 1);
        c.due("NEED of 0", x.person(1, 1), 50);
        c.due("LOUD of 0", x.hears(0, 1), 1);
        c.due("1 again", x.again(1), true);
        c.due("DAYS of 1", x.count(1), 200);
        c.due("STATES of 1", x.state(0) * 100 + x.state(199) * 10 + x.state(200), 121);
        c.due("NEED of 1", x.person(1, 1), 99);
        c.due("LOUD of 1", x.hears(0, 1), 9);
        x.again(0);
        x.talk(2);
        x.go(200);
        c.due("1 once more", x.again(1), true);
        c.due("its last two STATES", x.state(199) * 10 + x.state(200), 21);
        x.again(0);
        c.due("1 becomes another one", x.keep(1), true);
        x.go(3);
        c.due("1 again", x.again(1), true);
        c.due("DAYS of the later 1", x.count(1), 0);
        MoreThanHalf nobody = new MoreThanHalf();
        nobody.go(7);
        c.due("of nobody", nobody.keep(0), true);
        nobody.go(7);
        c.due("nobody again", nobody.again(0), true);
        c.due("DAYS of nobody", nobody.count(1), 7);
    }

    @Says(promise = 45, words = "Refused: others.")
    private static void refusedToKeep(Checks c) {
        int[] others = { -1, 2, 3, Integer.MIN_VALUE, Integer.MAX_VALUE };
        for (int i : others) {
            Probe.leaves(c, "keep(" + i + ")", 0, x -> x.keep(i) ? 1 : 0);
            c.due("nothing kept by it", keptBy(i), false);
        }
    }

    private static boolean keptBy(int i) {
        MoreThanHalf x = Streets.line();
        x.keep(i);
        return x.again(0) || x.again(1) || x.again(i);
    }

    // ---- 46: again

    @Says(promise = 46, words = "They are as they were kept under a number.")
    private static void asTheyWereKept(Checks c) {
        MoreThanHalf x = Streets.line();
        Checks.rule(x, 0, "p");
        x.go(1);
        x.talk(2);
        x.go(1);
        x.keep(1);
        String before = Probe.look(x, false);
        x.talk(4);
        x.go(9);
        x.sheet(2, 3, 1, 1);
        Checks.street(x, "0>1*7;0-2*3");
        x.part(0);
        c.due("a DAY goes by otherwise", x.behind(3), 7);
        c.due("again(1)", x.again(1), true);
        c.due("a DAY goes by as it did", x.behind(3), 5);
        c.due("DAYS, STATES, who hears whom, NEEDS", Probe.look(x, false).equals(before), true);
        c.row("the ROW is not kept", x, 1);
        c.due("DAYS behind those kept", x.state(3), -1);
        x.set(0, 1, 9);
        x.talk(2);
        Checks.rule(x, 0, "i");
        Checks.give(x, "n1,1");
        x.again(1);
        c.due("PRICES are not kept", x.person(0, 2), 9);
        c.due("RULES are not kept", x.rates(0, 2), 2);
        c.due("THE TEXT is not kept", x.count(6), 4);
        c.due("what was talked round behind it is not", x.state(2), 5);
        c.due("a DAY goes by as it was kept", x.behind(3), 5);
    }

    @Says(promise = 46, words = "Refused: nothing kept, some of PEOPLE were told since.")
    private static void refusedAgain(Checks c) {
        int[] others = { -1, 2, 3, Integer.MIN_VALUE, Integer.MAX_VALUE };
        for (int i : others) {
            Probe.leaves(c, "again(" + i + ")", 0, x -> x.again(i) ? 1 : 0);
        }
        MoreThanHalf x = Streets.line();
        c.due("nothing kept under 0", x.again(0), false);
        c.due("nothing kept under 1", x.again(1), false);
        x.keep(1);
        c.due("still nothing under 0", x.again(0), false);
        c.due("but under 1", x.again(1), true);
        Checks.street(x, "0-1*3");
        c.due("acquaintances were told", x.again(1), true);
        Checks.street(x, "n1,1;x");
        c.due("nobody was told", x.again(1), true);
        Checks.street(x, "n1,1");
        x.go(2);
        x.meet(0, 3, 5);
        String before = Probe.look(x, true);
        c.due("one was told", x.again(1), false);
        c.due("refused: all is as it was", Probe.look(x, true).equals(before), true);
        x.keep(0);
        c.due("kept since, under 0", x.again(0), true);
        c.due("not under 1", x.again(1), false);
        MoreThanHalf nobody = new MoreThanHalf();
        nobody.keep(0);
        Checks.street(nobody, "n1,1");
        c.due("kept when there was nobody", nobody.again(0), false);
        MoreThanHalf almost = Streets.alike(13, "n1,1");
        almost.keep(0);
        Checks.street(almost, "n1,1;n1,1");
        c.due("for two there was no room", almost.again(0), true);
        Checks.street(almost, "n1,1");
        c.due("for one there was", almost.again(0), false);
    }

    // ---- 47: count

    @Says(promise = 47, words = "What 0: PEOPLE")
    private static void countPeople(Checks c) {
        c.due("nobody", new MoreThanHalf().count(0), 0);
        c.due("one", Checks.of("n1,1").count(0), 1);
        c.due("14", Streets.alike(14, "n1,1").count(0), 14);
    }

    @Says(promise = 47, words = "1: DAYS, 2: how many BELIEVE now")
    private static void countDaysAndBelievers(Checks c) {
        MoreThanHalf x = Streets.chain(14);
        c.due("DAYS 0", x.count(1), 0);
        c.due("one BELIEVES", x.count(2), 1);
        x.go(12);
        c.due("DAYS 12", x.count(1), 12);
        c.due("13 BELIEVE", x.count(2), 13);
        x.talk(1 << 13);
        c.due("all 14 BELIEVE", x.count(2), 14);
        x.go(188);
        c.due("DAYS 200", x.count(1), 200);
        c.due("nobody BELIEVES", Streets.alike(14, "n1,1").count(2), 0);
    }

    @Says(promise = 47, words = "3: FIRM ones (bits)")
    private static void countFirm(Checks c) {
        c.due("nobody", new MoreThanHalf().count(3), 0);
        c.due("none of 14", Streets.alike(14, "b1,1").count(3), 0);
        c.due("all 14", Streets.alike(14, "n1,1!").count(3), Streets.ALL_14);
        c.due("the last of 14", Streets.more(Streets.alike(13, "n1,1"), 1, "b1,1!").count(3), 1 << 13);
    }

    @Says(promise = 47, words = "4: RULES told (bits)")
    private static void countRules(Checks c) {
        MoreThanHalf x = new MoreThanHalf();
        c.due("none", x.count(4), 0);
        Checks.rule(x, 0, "i");
        c.due("RULE 0", x.count(4), 1);
        Checks.rule(x, 1, "i");
        c.due("both", x.count(4), 3);
        x.rule(0);
        c.due("RULE 1", x.count(4), 2);
        Checks.rule(x, 0, "i+");
        c.due("a wrong one is none", x.count(4), 2);
        Checks.rule(x, 1, "i+");
        c.due("a wrong one leaves the one there is", x.count(4), 2);
        Streets.tell(x, "n1,1");
        c.due("a street leaves it", x.count(4), 2);
    }

    @Says(promise = 47, words = "5: numbers of the ROW")
    private static void countRow(Checks c) {
        MoreThanHalf x = Streets.alike(14, "n1,1");
        c.due("none told", x.count(5), 0);
        x.bound();
        c.due("14 numbers", x.count(5), 14);
        x.holds();
        c.due("one", x.count(5), 1);
        x.plan(63, 6);
        c.due("six", x.count(5), 6);
        x.plan(0, 6);
        c.due("an empty one", x.count(5), 0);
    }

    @Says(promise = 47, words = "6: signs of THE TEXT")
    private static void countSigns(Checks c) {
        MoreThanHalf x = new MoreThanHalf();
        c.due("none", x.count(6), 0);
        x.sign(0);
        c.due("four", x.count(6), 4);
        x.end(3);
        c.due("three", x.count(6), 3);
        for (int k = 0; k < 19; k++) {
            x.sign(0);
        }
        c.due("79", x.count(6), 79);
        x.sign(0);
        c.due("one refused", x.count(6), 79);
        x.end(76);
        x.sign(0);
        c.due("80", x.count(6), 80);
        x.street();
        c.due("read", x.count(6), 0);
    }

    @Says(promise = 47, words = "7: pairs who hear each other at all (one way is enough).")
    private static void countPairs(Checks c) {
        MoreThanHalf x = Streets.alike(14, "n1,1");
        c.due("none", x.count(7), 0);
        Streets.tell(x, "13>0*1");
        c.due("one way", x.count(7), 1);
        Streets.tell(x, "0>13*9");
        c.due("both ways are one pair", x.count(7), 1);
        Streets.tell(x, "13>0*0");
        c.due("the other way", x.count(7), 1);
        Streets.tell(x, "0-13*0");
        c.due("none again", x.count(7), 0);
        for (int i = 0; i < 14; i++) {
            for (int j = 0; j < i; j++) {
                x.meet(i, j, 1);
            }
        }
        c.due("all 91 pairs of 14", x.count(7), 91);
    }

    @Says(promise = 47, words = "NONE for another what.")
    private static void anotherCount(Checks c) {
        int[] others = { -1, 8, 9, Integer.MIN_VALUE, Integer.MAX_VALUE };
        for (int what : others) {
            Probe.refused(c, "count(" + what + ")", x -> x.count(what));
            c.due("count(" + what + ") of nobody", new MoreThanHalf().count(what), -1);
        }
    }

    // ---- 48: row

    @Says(promise = 48, words = "Number i of the ROW.")
    private static void numberOfTheRow(Checks c) {
        MoreThanHalf x = Streets.alike(14, "n1,1");
        x.bound();
        for (int i = 0; i < 14; i++) {
            c.due("row(" + i + ") of 14", x.row(i), 1L << i);
        }
        x.falls();
        c.due("below 0", x.row(0), -1);
        x.holds();
        c.due("row(0) of one", x.row(0), Streets.ALL_14);
    }

    @Says(promise = 48, words = "NoSuchElementException: none such.")
    private static void noSuchNumber(Checks c) {
        int[] others = { -1, 3, 4, 13, 14, 15, 16, Integer.MIN_VALUE, Integer.MAX_VALUE };
        for (int i : others) {
            Probe.throwsNoSuch(c, "row(" + i + ") of three", x -> x.row(i));
        }
        MoreThanHalf x = Streets.alike(14, "n1,1");
        c.throwsNoSuch("row(0) of none", () -> x.row(0));
        x.bound();
        c.throwsNoSuch("row(14) of 14", () -> x.row(14));
        c.throwsNoSuch("row(16) of 14", () -> x.row(16));
        x.holds();
        c.throwsNoSuch("row(1), of a ROW told ahead", () -> x.row(1));
        x.plan(0, 0);
        c.throwsNoSuch("row(0) of an empty one", () -> x.row(0));
    }
}

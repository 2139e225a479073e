/** The edges of promises 1 to 9, a test for each piece of the document. What is due was reckoned by hand. */
public final class StreetEdgesTest {
    public static void main(String[] args) throws Exception {
        Sentences.ask(StreetEdgesTest.class);
    }

    // ---- 1: a new object

    @Says(promise = 1, words = "Nobody.")
    private static void nobodyAtFirst(Checks c) {
        MoreThanHalf x = new MoreThanHalf();
        for (int what = 0; what <= 7; what++) {
            c.due("count(" + what + ")", x.count(what), 0);
        }
        c.row("at first", x);
        c.throwsNoSuch("person(0, 0)", () -> x.person(0, 0));
        c.throwsNoSuch("rates(0, 0)", () -> x.rates(0, 0));
        long[] none = { x.set(0, 0, 0), x.hears(0, 1), x.state(1), x.talk(1), x.behind(1), x.fall(0), x.fall(1), x.otherwise(0, 0),
            x.hops(0, 0), x.part(0), x.twins(1), x.fewest(1, 0), x.daily(1, 0), x.guard(1), x.shield(0), x.meet(0, 1, 1) };
        for (int k = 0; k < none.length; k++) {
            c.due("none such, call " + k, none[k], -1);
        }
        c.due("nothing kept", x.again(0) || x.again(1), false);
        c.due("alike()", x.alike(), 1);
        c.due("sheet(0, 14, 1, 1)", x.sheet(0, 14, 1, 1), 0);
        c.due("state(0)", x.state(0), 0);
        c.due("talk(0)", x.talk(0), 0);
        c.due("behind(0)", x.behind(0), 0);
    }

    @Says(promise = 1, words = "Nobody.")
    private static void whatNobodyTells(Checks c) {
        MoreThanHalf x = new MoreThanHalf();
        c.tells("rest()", x, x.rest(), 0, 1, 0, 0);
        c.tells("falls()", x, x.falls(), 0, -1, -1);
        c.tells("swings()", x, x.swings(), 0, 0);
        c.tells("onebyone()", x, x.onebyone(), 0, 0, 0);
        c.tells("level(20)", x, x.level(20), 99, 0);
        c.tells("ahead(1)", x, x.ahead(1), 1, 0);
        c.tells("twins(0)", x, x.twins(0), 0);
        c.tells("last()", x, x.last(), 1, 1, 1);
        c.tells("first()", x, x.first(), 0);
        c.tells("fates()", x, x.fates(), 1, 1);
        c.tells("fewest(0, 20)", x, x.fewest(0, 20), 0, 0);
        c.tells("cheapest(0, 0)", x, x.cheapest(0, 0), 0, 0);
        c.tells("daily(0, 6)", x, x.daily(0, 6), 0, 0, -1);
        c.tells("plan(0, 6)", x, x.plan(0, 6), 0);
        c.tells("holds()", x, x.holds(), 0, 0);
        c.tells("bound()", x, x.bound(), 0);
        c.tells("market(60)", x, x.market(60), 0, 0, 0, 0);
        c.tells("game(3)", x, x.game(3), 0, -1);
        c.tells("against(6)", x, x.against(6), 0, -1);
        c.tells("change(20)", x, x.change(20), 0);
        c.tells("single(0)", x, x.single(0), 0, 0);
        c.due("guard(0)", x.guard(0), -2);
        c.due("picks(0)", x.picks(0), -2);
        c.due("go(200)", x.go(200), 0);
        c.due("200 DAYS of nobody", x.count(1), 200);
    }

    // ---- 2: sign

    @Says(promise = 2, words = "Four signs come behind THE TEXT")
    private static void signsComeBehind(Checks c) {
        MoreThanHalf x = new MoreThanHalf();
        x.sign(0x62352C31); // b5,1
        x.end(3);
        x.sign(0x373B6E38); // 7;n8
        x.sign(0x2C390000); // ,9
        x.end(9);
        c.due("b5,7;n8,9", x.street(), 2);
        c.due("PRICE of 0", x.person(0, 2), 7);
        c.due("PRICE of 1", x.person(1, 2), 9);
    }

    @Says(promise = 2, words = "of v the highest byte first")
    private static void highestByteFirst(Checks c) {
        MoreThanHalf x = new MoreThanHalf();
        x.sign(0x62312C32);
        c.due("b1,2", x.street(), 1);
        int[][] wrong = { { 0xFF312C32, -1 }, { 0x62FF2C32, -2 }, { 0x6231FF32, -3 }, { 0x62312CFF, -4 }, { -1, -1 }, { 0, -1 },
            { Integer.MIN_VALUE, -1 }, { Integer.MAX_VALUE, -1 }, { 0xE2312C32, -1 }, { 0x62B12C32, -2 } };
        for (int[] w : wrong) {
            x.sign(w[0]);
            c.due("sign " + Integer.toHexString(w[0]), x.street(), w[1]);
        }
    }

    @Says(promise = 2, words = "how many it has")
    private static void howManySigns(Checks c) {
        MoreThanHalf x = new MoreThanHalf();
        for (int many = 4; many <= 80; many += 4) {
            c.due("sign " + many, x.sign(many), many);
        }
        x.end(1);
        c.due("behind one", x.sign(0), 5);
        x.end(0);
        c.due("behind none", x.sign(0), 4);
        x.street();
        c.due("behind a read one", x.sign(0), 4);
    }

    @Says(promise = 2, words = "Refused: there would be more than 80.")
    private static void moreThan80(Checks c) {
        for (int left = 73; left <= 80; left++) {
            MoreThanHalf x = Checks.give(new MoreThanHalf(), "n0,0;".repeat(16));
            x.end(left);
            c.due(left + " and 4", x.sign(0), left <= 76 ? left + 4 : -1);
            c.due(left + " and 4 are", x.count(6), left <= 76 ? left + 4 : left);
        }
        MoreThanHalf x = Checks.give(new MoreThanHalf(), Streets.lines("n0,0", 14) + ";0-1*1" + "n0,9");
        x.end(77);
        c.due("77 and 4", x.sign(0x21212121), -1);
        x.end(75);
        c.due("the first 75 are as they were", x.street(), 15);
        Probe.leaves(c, "of 4 signs no more than 76 more", 8, y -> {
            int many = y.sign(0);
            y.end(4);
            return many;
        });
    }

    // ---- 3: end

    @Says(promise = 3, words = "THE TEXT has its first n signs alone: true")
    private static void firstSignsAlone(Checks c) {
        for (int n = 0; n <= 4; n++) {
            MoreThanHalf x = Checks.give(new MoreThanHalf(), "n1,1");
            c.due("end(" + n + ")", x.end(n), true);
            c.due("signs", x.count(6), n);
            c.due("street()", x.street(), new int[] { 0, -2, -3, -4, 1 }[n]);
        }
        c.due("none of none", new MoreThanHalf().end(0), true);
        MoreThanHalf full = Checks.give(new MoreThanHalf(), "n".repeat(80));
        c.due("80 of 80", full.end(80), true);
        c.due("signs", full.count(6), 80);
    }

    @Says(promise = 3, words = "false if it has not so many")
    private static void notSoMany(Checks c) {
        int[] more = { 5, 6, 8, 80, 81, Integer.MAX_VALUE };
        for (int n : more) {
            Probe.leaves(c, "end(" + n + ") of 4", 0, x -> x.end(n) ? 1 : 0);
        }
        c.due("1 of none", new MoreThanHalf().end(1), false);
        MoreThanHalf full = Checks.give(new MoreThanHalf(), "n".repeat(80));
        c.due("81 of 80", full.end(81), false);
        c.due("signs", full.count(6), 80);
    }

    @Says(promise = 3, words = "or n is below 0.")
    private static void below0(Checks c) {
        int[] below = { -1, -4, Integer.MIN_VALUE };
        for (int n : below) {
            Probe.leaves(c, "end(" + n + ")", 0, x -> x.end(n) ? 1 : 0);
        }
        c.due("-1 of none", new MoreThanHalf().end(-1), false);
    }

    // ---- 4: street

    @Says(promise = 4, words = "THE TEXT tells of THE STREET")
    private static void theTextTells(Checks c) {
        MoreThanHalf x = new MoreThanHalf();
        c.due("the shortest of a person", Checks.street(x, "b1,2"), 1);
        c.due("the longest of a person", Checks.street(x, "n34,5!"), 1);
        c.due("the shortest of an acquaintance", Checks.street(x, "0>1*6"), 1);
        c.due("the longest of an acquaintance", Checks.street(x, "00-01*7"), 1);
        c.due("PEOPLE", x.count(0), 2);
        c.due("LOUD", x.hears(0, 1) * 10 + x.hears(1, 0), 77);
    }

    @Says(promise = 4, words = "(an empty one: nothing)")
    private static void anEmptyText(Checks c) {
        MoreThanHalf asked = Probe.rich();
        MoreThanHalf other = Probe.rich();
        asked.end(0);
        other.end(0);
        c.due("street()", asked.street(), 0);
        c.due("street() once more", asked.street(), 0);
        c.due("all is as it was", Probe.look(asked, true).equals(Probe.look(other, true)), true);
        c.due("DAYS", asked.count(1), 3);
        c.due("of a new object", new MoreThanHalf().street(), 0);
    }

    @Says(promise = 4, words = "if some of PEOPLE came, DAYS are 0")
    private static void daysAre0(Checks c) {
        MoreThanHalf x = Streets.line();
        x.go(200);
        Checks.street(x, "0-2*1");
        c.due("nobody came", x.count(1), 200);
        Checks.street(x, "0-2*1;n1,1");
        c.due("one came", x.count(1), 0);
        c.due("state(1)", x.state(1), -1);
        x.go(1);
        Checks.street(x, "n1,1;x");
        c.due("nobody came of a wrong text", x.count(1), 1);
        Checks.street(x, "n1,1;n1,1");
        c.due("two came", x.count(1), 0);
    }

    @Says(promise = 4, words = "(of the STATE as it is then)")
    private static void ofTheStateAsItIs(Checks c) {
        MoreThanHalf x = Streets.line();
        x.talk(2);
        x.go(1);
        c.due("STATE ahead of it", x.state(1), 5);
        Checks.street(x, "n1,1;b1,1");
        c.due("with those who came", x.state(0), 5 + 16);
        x.talk(8);
        Checks.street(x, "n1,1");
        c.due("with one who was talked round", x.state(0), 5 + 8 + 16);
    }

    @Says(promise = 4, words = "how many LINES")
    private static void howManyLines(Checks c) {
        MoreThanHalf x = new MoreThanHalf();
        c.due("one", Checks.street(x, "n1,1"), 1);
        c.due("two", Checks.street(x, "n1,1;0-1*1"), 2);
        c.due("the same one 12 times and one more", Checks.street(x, "0-1*1;".repeat(12) + "n1,1"), 13);
        c.due("the most that go into 76", Checks.street(new MoreThanHalf(), Streets.lines("n1,1", 14) + ";0>01*1"), 15);
    }

    private static void wrong(Checks c, String text, int at) {
        c.due(text, Checks.street(Streets.line(), text), -1 - at);
    }

    @Says(promise = 4, words = "-1 - p: the sign at p can't stand there")
    private static void whereASignCantStand(Checks c) {
        String person = "n12,3!;n1,1";
        String acquaintance = "02-01*4;0-1*1";
        for (int p = 0; p < 7; p++) {
            wrong(c, person.substring(0, p) + "x" + person.substring(p + 1), p);
        }
        for (int p = 0; p < 8; p++) {
            wrong(c, acquaintance.substring(0, p) + "x" + acquaintance.substring(p + 1), p);
        }
        wrong(c, "n1,1;n1,1;n1,1;x", 15);
        wrong(c, "" + (char) 0, 0);
        wrong(c, "n1,1" + (char) 255, 4);
        wrong(c, "n1,1" + (char) (';' + 128), 4);
        MoreThanHalf x = Streets.line();
        c.due("at the 76th", Checks.street(x, "0-1*1;".repeat(12) + "n1,;"), -76);
        c.due("at the 76th of 80", Checks.street(x, "0-1*1;".repeat(12) + "n1,;n1,1"), -76);
    }

    @Says(promise = 4, words = "(its end, if it ends too early")
    private static void endsTooEarly(Checks c) {
        String text = "n12,3!;00-12*4";
        for (int length = 1; length <= text.length(); length++) {
            boolean right = length == 5 || length == 6 || length == text.length();
            int due = !right ? -1 - length : length == text.length() ? 2 : 1;
            MoreThanHalf x = Streets.alike(12, "n1,1");
            c.due(text.substring(0, length), Checks.street(x, text.substring(0, length)), due);
        }
        String of76 = "0-1*1;".repeat(12);
        wrong(c, of76 + "n12,", 76);
        wrong(c, of76 + "n12", 75);
    }

    @Says(promise = 4, words = "76, if it has more and the first 76 could go on or end")
    private static void moreThan76(Checks c) {
        String lines = "0-1*1;".repeat(12);
        String[] firsts = { "n1,1", "n12,", "0-1*", "0>02" };
        for (String first : firsts) {
            c.due("signs", (lines + first).length(), 76);
            wrong(c, lines + first + "1", 76);
            wrong(c, lines + first + "1;0-", 76);
            wrong(c, lines + first + "x", 76);
            wrong(c, lines + first + (char) 0, 76);
        }
        wrong(c, "00-1*1;" + "0-1*1;".repeat(11) + "b1,", 76);
        String ended = "00-1*1;00-1*1;00-1*1;00-1*1;" + "0-1*1;".repeat(8);
        c.due("signs", ended.length(), 76);
        wrong(c, ended, 76);
        wrong(c, ended + "0", 76);
        MoreThanHalf x = Streets.line();
        c.due("exactly 76 are enough", Checks.street(x, lines + "n1,1"), 13);
        c.due("one came", x.count(0), 4);
        c.due("of 77 nothing comes", Checks.street(x, lines + "n1,1!"), -77);
        c.due("nobody came", x.count(0), 4);
    }

    @Says(promise = 4, words = "one that is not there")
    private static void oneThatIsNotThere(Checks c) {
        wrong(c, "2-3*1", 2);
        wrong(c, "3-2*1", 0);
        wrong(c, "02>03*1", 4);
        wrong(c, "03>02*1", 1);
        wrong(c, "0-10*1", 3);
        wrong(c, "10-0*1", 1);
        wrong(c, "99>0*1", 1);
        wrong(c, "3", 0);
        wrong(c, "0-3", 2);
        wrong(c, "3x", 0);
        wrong(c, "n1,1;3-4*1", 7);
        wrong(c, "3-0*1;n1,1", 0);
        c.due("the last one", Checks.street(Streets.line(), "2-1*1"), 1);
        c.due("one who came ahead of it", Checks.street(Streets.line(), "n1,1;3-1*1"), 2);
        MoreThanHalf full = Streets.alike(14, "n1,1");
        c.due("13 of 14", Checks.street(full, "13-12*1"), 1);
        c.due("14 of 14", Checks.street(full, "14-12*1"), -2);
        c.due("14 of 14, the other one", Checks.street(full, "12-14*1"), -5);
        c.due("0 of nobody", Checks.street(new MoreThanHalf(), "0-1*1"), -1);
    }

    @Says(promise = 4, words = "or the same as the first one of its LINE")
    private static void theSameAsTheFirst(Checks c) {
        wrong(c, "0-0*1", 2);
        wrong(c, "0-00*1", 3);
        wrong(c, "00-0*1", 3);
        wrong(c, "00>00*1", 4);
        wrong(c, "2>2*1", 2);
        wrong(c, "0-0", 2);
        wrong(c, "0-00x", 3);
        wrong(c, "0-1*1;1-1*1", 8);
        c.due("of another LINE", Checks.street(Streets.line(), "0-1*1;2-0*1"), 2);
        c.due("a number that only begins alike", Checks.street(Streets.alike(12, "n1,1"), "1-10*1"), 1);
        c.due("a number that only begins alike", Checks.street(Streets.alike(12, "n1,1"), "10-1*1"), 1);
    }

    @Says(promise = 4, words = "as far as it stands in the first 76: at its last digit")
    private static void asFarAsItStandsIn76(Checks c) {
        String lines = "0-1*1;".repeat(12);
        wrong(c, lines + "0>03", 75);
        wrong(c, lines + "0>03*1", 75);
        wrong(c, lines + "0>00*1", 75);
        wrong(c, lines + "01>3*1", 75);
        wrong(c, lines + "01>1*1", 75);
        wrong(c, lines + "01>2*1", 76);
        wrong(c, lines + "01>29*1", 76);
        wrong(c, lines + "01>09*1", 76);
        wrong(c, lines + "00>09*1", 75);
        String to75 = "00-1*1;00-1*1;00-1*1;" + "0-1*1;".repeat(9);
        c.due("signs", to75.length(), 75);
        wrong(c, to75 + "2-0*1", 76);
        wrong(c, to75 + "29-0*", 76);
        wrong(c, to75 + "3-0*1", 75);
        wrong(c, to75 + "09-0*", 76);
    }

    @Says(promise = 4, words = "the first sign of a LINE for which there is no room)")
    private static void noRoom(Checks c) {
        MoreThanHalf full = Streets.alike(14, "n1,1");
        c.due("a 15th", Checks.street(full, "n1,1"), -1);
        c.due("a 15th who BELIEVES", Checks.street(full, "b99,9!"), -1);
        c.due("a 15th in the second LINE", Checks.street(full, "0-1*1;n1,1"), -7);
        c.due("a 15th, cut", Checks.street(full, "0-1*1;n"), -7);
        c.due("acquaintances have room", Checks.street(full, "0-1*1;13>12*9"), 2);
        MoreThanHalf almost = Streets.alike(13, "n1,1");
        c.due("a 14th and a 15th", Checks.street(almost, "n1,1;n1,1"), -6);
        c.due("a 14th and, behind another LINE, a 15th", Checks.street(almost, "n1,1;13-0*1;b1,1"), -13);
        c.due("still 13", almost.count(0), 13);
        c.due("a 14th", Checks.street(almost, "n1,1;13-0*1"), 2);
        c.due("15 at once", Checks.street(new MoreThanHalf(), Streets.lines("n1,1", 15)), -71);
        c.due("14 at once", Checks.street(new MoreThanHalf(), Streets.lines("n1,1", 14)), 14);
    }

    @Says(promise = 4, words = "Nothing of it comes, if a LINE can't.")
    private static void nothingOfItComes(Checks c) {
        Probe.empties(c, "the last LINE", "n1,1;0-3*9;b1,1!;x", -18, MoreThanHalf::street);
        Probe.empties(c, "the last sign", "1-3*9;0>1*0;x", -13, MoreThanHalf::street);
        Probe.empties(c, "no end", "b1,1;0>1*0;", -12, MoreThanHalf::street);
        Probe.empties(c, "no room", Streets.lines("b1,1", 11), -51, MoreThanHalf::street);
        Probe.empties(c, "more than 76", "b1,1;" + "0-1*9;".repeat(12), -77, MoreThanHalf::street);
    }

    // ---- 5: person

    @Says(promise = 5, words = "Of one of PEOPLE, what 0: 1 if it BELIEVES now")
    private static void believesNow(Checks c) {
        MoreThanHalf x = Checks.of("b50,1;n50,1;0-1*1");
        c.due("0", x.person(0, 0) * 10 + x.person(1, 0), 10);
        x.go(1);
        c.due("behind a DAY", x.person(0, 0) * 10 + x.person(1, 0), 1);
        x.talk(1);
        c.due("talked round", x.person(0, 0) * 10 + x.person(1, 0), 11);
        MoreThanHalf full = Streets.more(Streets.alike(13, "n1,1"), 1, "b1,1");
        c.due("12 of 14", full.person(12, 0), 0);
        c.due("13 of 14", full.person(13, 0), 1);
    }

    @Says(promise = 5, words = "1: NEED, 2: PRICE, 3: 1 if FIRM")
    private static void needPriceFirm(Checks c) {
        MoreThanHalf x = Checks.of("n0,9", "b99,0!");
        int[][] due = { { 0, 9, 0 }, { 99, 0, 1 } };
        for (int i = 0; i < 2; i++) {
            for (int what = 1; what <= 3; what++) {
                c.due("person(" + i + ", " + what + ")", x.person(i, what), due[i][what - 1]);
            }
        }
        MoreThanHalf full = Streets.more(Streets.alike(13, "n1,1"), 1, "n1,1!");
        c.due("12 of 14", full.person(12, 3), 0);
        c.due("13 of 14", full.person(13, 3), 1);
    }

    @Says(promise = 5, words = "4: ALL, 5: how loud all others hear it (the sum).")
    private static void howLoud(Checks c) {
        MoreThanHalf x = Streets.alike(14, "n1,1");
        c.due("ALL of one who hears nobody", x.person(13, 4), 0);
        c.due("one whom nobody hears", x.person(13, 5), 0);
        for (int i = 0; i < 13; i++) {
            Streets.tell(x, "13>" + i + "*9");
        }
        c.due("heard by 13 as loud as can be", x.person(13, 5), 117);
        c.due("who hears nobody", x.person(13, 4), 0);
        c.due("who hears one", x.person(0, 4), 9);
        c.due("whom nobody hears", x.person(0, 5), 0);
        for (int i = 0; i < 13; i++) {
            Streets.tell(x, i + ">13*8");
        }
        c.due("who hears 13", x.person(13, 4), 104);
        c.due("as loud as they hear it", x.person(13, 5), 117);
    }

    @Says(promise = 5, words = "NoSuchElementException: none such, another what.")
    private static void noSuchPerson(Checks c) {
        int[][] wrong = { { 4, 0 }, { -1, 0 }, { 14, 5 }, { 0, -1 }, { 0, 6 }, { 3, 6 }, { 4, 6 } };
        for (int[] w : wrong) {
            Probe.throwsNoSuch(c, "person(" + w[0] + ", " + w[1] + ")", x -> x.person(w[0], w[1]));
        }
        for (int far : Streets.FAR) {
            Probe.throwsNoSuch(c, "person(" + far + ", 0)", x -> x.person(far, 0));
            Probe.throwsNoSuch(c, "person(0, " + far + ")", x -> x.person(0, far));
        }
        c.throwsNoSuch("0 of nobody", () -> new MoreThanHalf().person(0, 0));
        MoreThanHalf full = Streets.alike(14, "n7,1");
        c.due("13 of 14", full.person(13, 1), 7);
        c.throwsNoSuch("14 of 14", () -> full.person(14, 1));
    }

    // ---- 6: set

    @Says(promise = 6, words = "NEED (what 0), PRICE (1) of one becomes v: what it was.")
    private static void whatItWas(Checks c) {
        MoreThanHalf x = Streets.alike(14, "n50,5");
        int[][] calls = { { 0, 0, 50 }, { 0, 99, 0 }, { 0, 98, 99 }, { 1, 0, 5 }, { 1, 9, 0 }, { 1, 8, 9 } };
        for (int[] call : calls) {
            c.due("set(13, " + call[0] + ", " + call[1] + ")", x.set(13, call[0], call[1]), call[2]);
            c.due("it became", x.person(13, call[0] + 1), call[1]);
            c.due("not of another one", x.person(12, call[0] + 1), call[0] == 0 ? 50 : 5);
        }
        c.due("the first one", x.set(0, 0, 1), 50);
        c.due("it became", x.person(0, 1), 1);
        MoreThanHalf y = Checks.of("b1,1!;n50,1;n50,1!;0>1*1;2>1*1");
        c.due("ahead of it", y.behind(1), 1);
        y.set(1, 0, 49);
        c.due("a DAY goes by with it at once", y.behind(1), 3);
        y.set(1, 0, 50);
        c.due("and without it", y.behind(1), 1);
        c.due("FIRM ones, too", y.set(0, 0, 3), 1);
    }

    @Says(promise = 6, words = "Refused: others.")
    private static void refusedToSet(Checks c) {
        int[][] wrong = { { 4, 0, 1 }, { -1, 0, 1 }, { 0, -1, 1 }, { 0, 2, 1 }, { 0, 3, 1 }, { 0, 0, -1 }, { 0, 0, 100 },
            { 0, 1, -1 }, { 0, 1, 10 }, { 0, 1, 99 } };
        for (int[] w : wrong) {
            Probe.refused(c, "set(" + w[0] + ", " + w[1] + ", " + w[2] + ")", x -> x.set(w[0], w[1], w[2]));
        }
        for (int far : Streets.FAR) {
            Probe.refused(c, "set(" + far + ", 0, 1)", x -> x.set(far, 0, 1));
            Probe.refused(c, "set(0, " + far + ", 1)", x -> x.set(0, far, 1));
            Probe.refused(c, "set(0, 0, " + far + ")", x -> x.set(0, 0, far));
            Probe.refused(c, "set(0, 1, " + far + ")", x -> x.set(0, 1, far));
        }
    }

    // ---- 7: hears

    @Says(promise = 7, words = "How loud one hears another one.")
    private static void howLoudOneHears(Checks c) {
        MoreThanHalf x = Streets.alike(14, "n1,1");
        c.due("at first", x.hears(0, 13), 0);
        Streets.tell(x, "13>0*9");
        c.due("0 hears 13", x.hears(0, 13), 9);
        c.due("13 does not hear 0", x.hears(13, 0), 0);
        Streets.tell(x, "0>13*1");
        c.due("13 hears 0", x.hears(13, 0), 1);
        c.due("0 hears 13", x.hears(0, 13), 9);
    }

    @Says(promise = 7, words = "NONE: none such, like ones.")
    private static void nobodyToHear(Checks c) {
        int[][] wrong = { { 4, 0 }, { 0, 4 }, { -1, 0 }, { 0, -1 }, { 0, 0 }, { 3, 3 }, { 4, 4 }, { -1, -1 } };
        for (int[] w : wrong) {
            Probe.refused(c, "hears(" + w[0] + ", " + w[1] + ")", x -> x.hears(w[0], w[1]));
        }
        for (int far : Streets.FAR) {
            Probe.refused(c, "hears(" + far + ", 0)", x -> x.hears(far, 0));
            Probe.refused(c, "hears(0, " + far + ")", x -> x.hears(0, far));
        }
        MoreThanHalf full = Streets.alike(14, "n1,1");
        c.due("13 of 14", full.hears(13, 12), 0);
        c.due("14 of 14", full.hears(14, 12), -1);
        c.due("14 of 14", full.hears(12, 14), -1);
    }

    // ---- 8: sheet

    private static void sheet(Checks c, int kind, int n, int f, int step, int... needs) {
        String call = "sheet(" + kind + ", " + n + ", " + f + ", " + step + ")";
        MoreThanHalf x = Streets.alike(needs.length, "n7,1");
        int sum = 0;
        for (int need : needs) {
            sum += need;
        }
        c.due(call, x.sheet(kind, n, f, step), kind == 3 ? -3 : sum);
        for (int i = 0; i < needs.length; i++) {
            c.due("NEED of " + i + " behind " + call, x.person(i, 1), needs[i]);
        }
    }

    @Says(promise = 8, words = "NEEDS of PEOPLE 0, 1, .., as a sheet tells them")
    private static void needsInOrder(Checks c) {
        sheet(c, 2, 3, 10, 20, 10, 30, 50);
        sheet(c, 0, 3, 50, -20, 50, 30, 10);
        sheet(c, 1, 1, 33, 5, 33);
        sheet(c, 2, 14, 1, 1, 1, 2, 3, 4, 5, 6, 7, 8, 9, 10, 11, 12, 13, 14);
        MoreThanHalf x = Checks.of("b1,1!;n7,1;n7,1!;0>1*1;2>1*1");
        x.sheet(2, 2, 0, 50);
        c.due("a DAY goes by with them at once", x.behind(1), 1);
        x.sheet(2, 2, 0, 49);
        c.due("a DAY goes by with them at once", x.behind(1), 3);
    }

    @Says(promise = 8, words = "bytes (kind 0), shorts (1), ints (2) of n entries f, f + step, ..")
    private static void entries(Checks c) {
        for (int kind = 0; kind < 3; kind++) {
            sheet(c, kind, 0, 9, 9, 50, 50);
            sheet(c, kind, 1, 9, 9, 9, 50);
            sheet(c, kind, 2, 9, 0, 9, 9);
            sheet(c, kind, 3, 9, 9, 9, 18);
            sheet(c, kind, 14, 9, 9, 9, 18);
            sheet(c, kind, 14, 9, 9);
        }
        sheet(c, 2, 3, Integer.MAX_VALUE, 1, 99, 0, 0);
        sheet(c, 2, 3, Integer.MAX_VALUE, Integer.MAX_VALUE, 99, 0, 99);
        sheet(c, 2, 3, 5, Integer.MIN_VALUE, 5, 0, 5);
    }

    @Says(promise = 8, words = "of bytes, shorts the lowest bits, with their sign")
    private static void lowestBits(Checks c) {
        int[][] bytes = { { 127, 99 }, { 128, 0 }, { 255, 0 }, { 256, 0 }, { 257, 1 }, { 256 + 99, 99 }, { 256 + 127, 99 },
            { 256 + 128, 0 }, { -128, 0 }, { -129, 99 }, { -256 + 7, 7 }, { 65536 + 8, 8 } };
        for (int[] entry : bytes) {
            sheet(c, 0, 1, entry[0], 0, entry[1]);
        }
        int[][] shorts = { { 128, 99 }, { 256, 99 }, { 32767, 99 }, { 32768, 0 }, { 65535, 0 }, { 65536, 0 }, { 65537, 1 },
            { 65536 + 99, 99 }, { -32768, 0 }, { -32769, 99 }, { -65536 + 7, 7 }, { 1 << 24 | 9, 9 } };
        for (int[] entry : shorts) {
            sheet(c, 1, 1, entry[0], 0, entry[1]);
        }
        int[][] ints = { { 128, 99 }, { 256, 99 }, { 32768, 99 }, { 65536, 99 }, { Integer.MAX_VALUE, 99 }, { Integer.MIN_VALUE, 0 } };
        for (int[] entry : ints) {
            sheet(c, 2, 1, entry[0], 0, entry[1]);
        }
        sheet(c, 0, 3, 127, 1, 99, 0, 0);
        sheet(c, 0, 3, 255, 1, 0, 0, 1);
        sheet(c, 1, 3, 65534, 3, 0, 1, 4);
    }

    @Says(promise = 8, words = "put to 0 .. 99)")
    private static void putBetween(Checks c) {
        for (int kind = 0; kind < 3; kind++) {
            sheet(c, kind, 3, -1, 1, 0, 0, 1);
            sheet(c, kind, 3, 98, 1, 98, 99, 99);
            sheet(c, kind, 2, 1, -2, 1, 0);
        }
    }

    @Says(promise = 8, words = "or a missing one (3)")
    private static void missing(Checks c) {
        int[] any = { Integer.MIN_VALUE, -1, 0, 1, 14 };
        for (int n : any) {
            sheet(c, 3, n, 9, 9, 50, 50, 50);
        }
        sheet(c, 3, 0, 0, 0);
    }

    @Says(promise = 8, words = "those behind it have 50")
    private static void thoseBehindIt(Checks c) {
        for (int kind = 0; kind < 3; kind++) {
            sheet(c, kind, 13, 4, 0, 4, 4, 4, 4, 4, 4, 4, 4, 4, 4, 4, 4, 4, 50);
            sheet(c, kind, 14, 4, 0, 4, 4, 4, 4, 4, 4, 4, 4, 4, 4, 4, 4, 4, 4);
            sheet(c, kind, 0, 4, 0, 50, 50, 50);
        }
    }

    @Says(promise = 8, words = "the sum of all.")
    private static void sumOfAll(Checks c) {
        MoreThanHalf x = Streets.alike(14, "n1,1");
        c.due("14 times 99", x.sheet(2, 14, 99, 0), 1386);
        c.due("14 times 0", x.sheet(2, 14, 0, 0), 0);
        c.due("14 times 50", x.sheet(2, 0, 0, 0), 700);
        c.due("one told", x.sheet(2, 1, 99, 0), 99 + 650);
        c.due("entries for nobody", Streets.alike(2, "n1,1").sheet(2, 14, 10, 0), 20);
        c.due("nobody", new MoreThanHalf().sheet(2, 14, 10, 0), 0);
    }

    @Says(promise = 8, words = "-2: n below 0 (of kinds 0 .. 2; nothing changes)")
    private static void below0Entries(Checks c) {
        for (int kind = 0; kind < 3; kind++) {
            int asked = kind;
            Probe.leaves(c, "sheet(" + kind + ", -1, 1, 1)", -2, x -> x.sheet(asked, -1, 1, 1));
            Probe.leaves(c, "sheet(" + kind + ", MIN, 1, 1)", -2, x -> x.sheet(asked, Integer.MIN_VALUE, 1, 1));
            c.due("sheet(" + kind + ", 0, 1, 1)", Streets.line().sheet(kind, 0, 1, 1), 150);
        }
    }

    @Says(promise = 8, words = "-3: missing (all 50).")
    private static void missingAll50(Checks c) {
        MoreThanHalf x = Streets.alike(14, "n7,1");
        c.due("sheet(3, 14, 9, 9)", x.sheet(3, 14, 9, 9), -3);
        for (int i = 0; i < 14; i++) {
            c.due("NEED of " + i, x.person(i, 1), 50);
        }
        c.due("nobody", new MoreThanHalf().sheet(3, 0, 0, 0), -3);
    }

    @Says(promise = 8, words = "NONE: another kind, n above 14 (these first).")
    private static void anotherKind(Checks c) {
        int[][] wrong = { { -1, 1 }, { 4, 1 }, { -1, -1 }, { 4, -1 }, { 4, 15 }, { 0, 15 }, { 1, 15 }, { 2, 15 }, { 3, 15 },
            { Integer.MIN_VALUE, 1 }, { Integer.MAX_VALUE, -1 }, { 0, Integer.MAX_VALUE }, { 3, Integer.MAX_VALUE } };
        for (int[] w : wrong) {
            Probe.refused(c, "sheet(" + w[0] + ", " + w[1] + ", 1, 1)", x -> x.sheet(w[0], w[1], 1, 1));
        }
        c.due("n 14 for 3", Streets.line().sheet(2, 14, 1, 1), 6);
        c.due("kind 3, n 14", Streets.line().sheet(3, 14, 1, 1), -3);
    }

    // ---- 9: alike

    @Says(promise = 9, words = "Whether all hear each other alike (each pair both ways as loud): 1, 0.")
    private static void alike(Checks c) {
        c.due("nobody", new MoreThanHalf().alike(), 1);
        c.due("one", Checks.of("n1,1").alike(), 1);
        MoreThanHalf x = Streets.alike(14, "n1,1");
        c.due("nobody is heard", x.alike(), 1);
        Streets.tell(x, "12>13*1");
        c.due("one way, the last two", x.alike(), 0);
        Streets.tell(x, "13>12*2");
        c.due("less loud, the last two", x.alike(), 0);
        Streets.tell(x, "13>12*1");
        c.due("as loud", x.alike(), 1);
        Streets.tell(x, "0>1*9");
        c.due("one way, the first two", x.alike(), 0);
        Streets.tell(x, "1>0*9;0>13*1");
        c.due("one way, the first and the last", x.alike(), 0);
        Streets.tell(x, "0>13*0");
        c.due("0 both ways", x.alike(), 1);
    }
}

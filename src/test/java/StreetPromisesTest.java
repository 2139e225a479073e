/** Promises 1 to 9: the street. What is due here was reckoned by hand. */
public final class StreetPromisesTest {
    private static final Checks CHECKS = new Checks("StreetPromisesTest");
    private static final String LINE = "b50,3;n50,2;n40,1;0-1*1;1-2*1";

    public static void main(String[] args) {
        newObject();
        signs();
        end();
        street();
        streetErrors();
        longStreets();
        noRoom();
        person();
        set();
        hears();
        sheet();
        alike();
        CHECKS.end();
    }

    private static void due(String what, long got, long want) {
        CHECKS.due(what, got, want);
    }

    private static void newObject() {
        MoreThanHalf x = new MoreThanHalf();
        for (int what = 0; what <= 7; what++) {
            due("1: count(" + what + ")", x.count(what), 0);
        }
        due("1: state(0)", x.state(0), 0);
        due("1: alike()", x.alike(), 1);
        due("1: level(0)", x.level(0), 99);
        CHECKS.row("1: level(0)", x, 0);
        due("1: hops(0, 0)", x.hops(0, 0), -1);
        due("1: fewest(0, 0)", x.fewest(0, 0), 0);
        CHECKS.row("1: fewest(0, 0)", x, 0);
        due("1: change(0)", x.change(0), 0);
        CHECKS.row("1: change(0)", x);
        due("1: single(20)", x.single(20), 0);
        CHECKS.row("1: single(20)", x, 0);
        due("1: market(60)", x.market(60), 0);
        CHECKS.row("1: market(60)", x, 0, 0, 0);
        due("1: game(3)", x.game(3), 0);
        due("1: picks(1)", x.picks(1), -2);
        due("1: go(200)", x.go(200), 0);
        CHECKS.due("1: another object is another street", new MoreThanHalf().count(1), 0);
        CHECKS.due("1: NONE", MoreThanHalf.NONE, -1);
    }

    private static void signs() {
        MoreThanHalf x = new MoreThanHalf();
        due("2: the highest byte first", x.sign(0x62352C31), 4);
        due("2: b5,1 is a street", x.street(), 1);
        due("2: and has been read", x.count(6), 0);
        for (int k = 1; k <= 20; k++) {
            due("2: sign " + k, x.sign(0x6E302C30), 4 * k);
        }
        due("2: more than 80", x.sign(0), -1);
        due("2: more than 80 changes nothing", x.count(6), 80);
        CHECKS.due("2: end(79)", x.end(79), true);
        due("2: 79 and 4", x.sign(0), -1);
        CHECKS.due("2: end(76)", x.end(76), true);
        due("2: 76 and 4", x.sign(-1), 80);
    }

    private static void end() {
        MoreThanHalf x = new MoreThanHalf();
        CHECKS.due("3: end(0) of none", x.end(0), true);
        CHECKS.due("3: end(1) of none", x.end(1), false);
        Checks.give(x, "b5,1;n7,2");
        CHECKS.due("3: end(-1)", x.end(-1), false);
        CHECKS.due("3: end(10)", x.end(10), false);
        due("3: nothing changed", x.count(6), 9);
        CHECKS.due("3: end(9)", x.end(9), true);
        CHECKS.due("3: end(4)", x.end(4), true);
        due("3: the first 4 alone", x.street(), 1);
        due("3: one of PEOPLE", x.count(0), 1);
        due("3: who has NEED 5", x.person(0, 1), 5);
    }

    private static void street() {
        MoreThanHalf x = Checks.of(LINE);
        due("4: nothing", x.street(), 0);
        due("4: PEOPLE", x.count(0), 3);
        x.go(2);
        due("4: acquaintances alone", Checks.street(x, "0>2*4;1-2*0"), 2);
        due("4: leave DAYS", x.count(1), 2);
        due("4: the second hears the first", x.hears(2, 0), 4);
        due("4: not the other way", x.hears(0, 2), 0);
        due("4: 0 becomes it", x.hears(1, 2) + x.hears(2, 1), 0);
        x.talk(4);
        due("4: some of PEOPLE", Checks.street(x, "b07,9!;03-0*2;n0,0"), 3);
        due("4: DAYS are 0", x.count(1), 0);
        due("4: of the STATE as it is then", x.state(0), 12);
        due("4: FIRM", x.count(3), 8);
        due("4: NEED of two digits", x.person(3, 1), 7);
        due("4: both hear each other", x.hears(3, 0) * 10 + x.hears(0, 3), 22);
        due("4: behind what there is", x.count(0), 5);
    }

    private static void error(String before, String text, int due) {
        MoreThanHalf x = Checks.of(before);
        x.go(1);
        int people = x.count(0);
        int pairs = x.count(7);
        int state = x.state(x.count(1));
        due("4: " + text, Checks.street(x, text), due);
        due("4: nothing of " + text, x.count(0) * 1000 + x.count(7), people * 1000 + pairs);
        due("4: DAYS behind " + text, x.count(1), 1);
        due("4: STATE behind " + text, x.state(1), state);
        due("4: THE TEXT is read: " + text, x.count(6), 0);
    }

    private static void streetErrors() {
        error(LINE, "x", -1);
        error(LINE, ";", -1);
        error(LINE, "!", -1);
        error(LINE, "b", -2);
        error(LINE, "bb", -2);
        error(LINE, "b5", -3);
        error(LINE, "b5;", -3);
        error(LINE, "b123,1", -4);
        error(LINE, "b12", -4);
        error(LINE, "b12,", -5);
        error(LINE, "b12,,", -5);
        error(LINE, "b12,1;", -7);
        error(LINE, "b12,12", -6);
        error(LINE, "b12,1!!", -7);
        error(LINE, "n1,1;2-1*3;n1,1;x", -17);
        error(LINE, "0", -2);
        error(LINE, "3", -1);
        error(LINE, "3-0*1", -1);
        error(LINE, "10-0*1", -2);
        error(LINE, "03-0*1", -2);
        error(LINE, "0-", -3);
        error(LINE, "0=1*1", -2);
        error(LINE, "0-0*1", -3);
        error(LINE, "0-00*1", -4);
        error(LINE, "0-0", -3);
        error(LINE, "0-3", -3);
        error(LINE, "0-1", -4);
        error(LINE, "0-01", -5);
        error(LINE, "0-011*1", -5);
        error(LINE, "0-1*", -5);
        error(LINE, "0-1*x", -5);
        error(LINE, "0-1*12", -6);
        error(LINE, "0>1*1;", -7);
        error(LINE, "0-1*1!", -6);
        error(LINE, "3-0*1;n5,1", -1);
        error(LINE, "n5,1;3-4*1", -8);
        error(LINE, "n5,1;3-2*1;", -12);
        error(LINE, "" + (char) 233, -1);
        error(LINE, "0-1*" + (char) 0, -5);
    }

    private static String lines(String line, int many) {
        StringBuilder text = new StringBuilder(line);
        for (int k = 1; k < many; k++) {
            text.append(';').append(line);
        }
        return text.toString();
    }

    private static void longStreets() {
        String thirteen = lines("n0,0", 12) + ";n10,0";
        due("4: 65 signs", thirteen.length(), 65);
        due("4: 76 signs", Checks.street(new MoreThanHalf(), thirteen + ";00-1*1;n9,"), -77);
        due("4: 76 signs that end", Checks.street(new MoreThanHalf(), thirteen + ";00-1*1;n,0"), -75);
        due("4: 76 signs are enough", Checks.street(new MoreThanHalf(), thirteen + ";0-1*1;n9,0"), 15);
        String most = lines("n0,0", 13) + ";0-1*1;00-1*1";
        due("4: 77 signs", most.length(), 77);
        MoreThanHalf x = new MoreThanHalf();
        due("4: 77 signs could have gone on", Checks.street(x, most), -77);
        due("4: nothing of 77 signs", x.count(0), 0);
        due("4: 76 of them end too early", Checks.street(x, most.substring(0, 76)), -77);
        String full = lines("n0,0", 14) + ";01-2*1";
        due("4: exactly 76 signs", full.length(), 76);
        due("4: exactly 76 signs end", Checks.street(new MoreThanHalf(), full), 15);
        due("4: 76 that could end and one more", Checks.street(new MoreThanHalf(), full + ";"), -77);
        due("4: 76 that could end and four more", Checks.street(new MoreThanHalf(), full + "zzzz"), -77);
        due("4: a wrong sign ahead of 76", Checks.street(new MoreThanHalf(), full.replace("2*1", "2*x") + "zzzz"), -76);
        String cut = thirteen + ";0-1*1;00-";
        due("4: 75 signs", cut.length(), 75);
        due("4: the same one as far as it stands", Checks.street(new MoreThanHalf(), cut + "01*1"), -76);
        due("4: one that is there as far as it stands", Checks.street(new MoreThanHalf(), cut + "15*1"), -77);
        String few = lines("n0,0", 5) + lines(";0-1*1", 7).replace(";;", ";") + ";03-";
        due("4: 70 signs", few.length(), 70);
        due("4: none such behind the first 76", Checks.street(new MoreThanHalf(), few + "4*1;2>9*1"), -77);
        due("4: none such in the first 76", Checks.street(new MoreThanHalf(), few + "4*1;9>2*1"), -75);
        String none = lines("n0,0", 5) + lines(";0-1*1", 7).replace(";;", ";") + ";03-04*1;";
        due("4: 75 signs again", none.length(), 75);
        due("4: none such as far as it stands", Checks.street(new MoreThanHalf(), none + "9-1*"), -76);
        due("4: one that is there, then the end of 76", Checks.street(new MoreThanHalf(), none + "4-1*"), -77);
    }

    private static void noRoom() {
        MoreThanHalf x = Checks.of(lines("n0,0", 14));
        due("4: 14 PEOPLE", x.count(0), 14);
        due("4: no room", Checks.street(x, "n0,0"), -1);
        due("4: no room for a wrong line", Checks.street(x, "nx"), -1);
        due("4: no room behind a LINE", Checks.street(x, "12-13*9;b1,1"), -9);
        due("4: nothing of it", x.hears(12, 13), 0);
        due("4: number of two digits", Checks.street(x, "12-13*9;13>0*4"), 2);
        due("4: heard", x.hears(12, 13), 9);
        due("4: heard by 0", x.hears(0, 13), 4);
        due("4: one that is not there", Checks.street(x, "14-13*9"), -2);
    }

    private static void person() {
        MoreThanHalf x = Checks.of("b50,3;n99,2!;n0,9;0-1*4;2>1*3;1>2*9");
        int[][] due = { { 1, 50, 3, 0, 4, 4 }, { 0, 99, 2, 1, 7, 13 }, { 0, 0, 9, 0, 9, 3 } };
        for (int i = 0; i < 3; i++) {
            for (int what = 0; what < 6; what++) {
                due("5: person(" + i + ", " + what + ")", x.person(i, what), due[i][what]);
            }
        }
        CHECKS.throwsNoSuch("5: person(3, 0)", () -> x.person(3, 0));
        CHECKS.throwsNoSuch("5: person(-1, 0)", () -> x.person(-1, 0));
        CHECKS.throwsNoSuch("5: person(0, 6)", () -> x.person(0, 6));
        CHECKS.throwsNoSuch("5: person(0, -1)", () -> x.person(0, -1));
        CHECKS.throwsNoSuch("5: person(14, 6)", () -> new MoreThanHalf().person(0, 0));
        x.talk(4);
        due("5: BELIEVES now", x.person(2, 0), 1);
    }

    private static void set() {
        MoreThanHalf x = Checks.of(LINE);
        due("6: NEED", x.set(1, 0, 49), 50);
        due("6: NEED counts at once", x.behind(1), 2);
        due("6: NEED 0", x.set(1, 0, 0), 49);
        due("6: NEED 99", x.set(1, 0, 99), 0);
        due("6: PRICE", x.set(1, 1, 9), 2);
        due("6: PRICE 0", x.set(1, 1, 0), 9);
        int[][] wrong = { { 1, 0, 100 }, { 1, 0, -1 }, { 1, 1, 10 }, { 1, 1, -1 }, { 1, 2, 1 }, { 1, -1, 1 }, { 3, 0, 1 }, { -1, 0, 1 } };
        for (int[] w : wrong) {
            due("6: set(" + w[0] + ", " + w[1] + ", " + w[2] + ")", x.set(w[0], w[1], w[2]), -1);
        }
        due("6: nothing changed", x.person(1, 1) * 10 + x.person(1, 2), 990);
    }

    private static void hears() {
        MoreThanHalf x = Checks.of("b5,1;n5,1;0>1*3");
        due("7: the second hears the first", x.hears(1, 0), 3);
        due("7: not the first the second", x.hears(0, 1), 0);
        due("7: itself", x.hears(1, 1), -1);
        due("7: none such", x.hears(0, 2), -1);
        due("7: none such", x.hears(2, 0), -1);
        due("7: none such", x.hears(-1, 0), -1);
        due("7: none such", x.hears(0, -1), -1);
    }

    private static void sheet() {
        MoreThanHalf x = Checks.of(LINE);
        due("8: bytes", x.sheet(0, 3, 100, 100), 99 + 0 + 44);
        due("8: a byte above 99", x.person(0, 1), 99);
        due("8: a byte below 0", x.person(1, 1), 0);
        due("8: a byte's lowest bits", x.person(2, 1), 44);
        due("8: shorts", x.sheet(1, 3, 32767, 32769), 99 + 0 + 0);
        due("8: a short's lowest bits", x.sheet(1, 3, 65536, 7), 0 + 7 + 14);
        due("8: ints", x.sheet(2, 3, Integer.MAX_VALUE, 1), 99);
        due("8: ints, down", x.sheet(2, 3, 60, -40), 60 + 20 + 0);
        due("8: fewer", x.sheet(2, 1, 3, 1), 103);
        due("8: those behind it", x.person(2, 1), 50);
        due("8: none", x.sheet(0, 0, 1, 1), 150);
        due("8: more entries than PEOPLE", x.sheet(1, 14, 1, 1), 6);
        due("8: n above 14", x.sheet(1, 15, 9, 9), -1);
        due("8: another kind", x.sheet(4, 3, 9, 9), -1);
        due("8: another kind", x.sheet(-1, 3, 9, 9), -1);
        due("8: another kind first", x.sheet(4, -1, 9, 9), -1);
        due("8: missing, n above 14", x.sheet(3, 15, 9, 9), -1);
        for (int kind = 0; kind < 3; kind++) {
            due("8: n below 0", x.sheet(kind, -1, 9, 9), -2);
        }
        due("8: nothing changed", x.person(0, 1) * 100 + x.person(1, 1) * 10 + x.person(2, 1), 123);
        due("8: missing", x.sheet(3, -1, 9, 9), -3);
        due("8: all 50", x.person(0, 1) + x.person(1, 1) + x.person(2, 1), 150);
        due("8: counts at once", x.behind(6), 5);
        due("8: of nobody", new MoreThanHalf().sheet(0, 5, 9, 9), 0);
    }

    private static void alike() {
        MoreThanHalf x = Checks.of("b5,1;n5,1;n5,1;0-1*3;2>1*1");
        due("9: one way", x.alike(), 0);
        Checks.street(x, "1>2*2");
        due("9: not as loud", x.alike(), 0);
        Checks.street(x, "1>2*1");
        due("9: as loud", x.alike(), 1);
    }
}

import java.util.NoSuchElementException;

/** Looks at all that a street answers, so that two streets made alike can be told apart. */
final class Probe {
    static final String STREET = "b50,3;n50,2;n40,1!;n30,4;0-1*1;1-2*1;3>0*2;0>3*5";

    private Probe() {
    }

    interface Call {
        long ask(MoreThanHalf x);
    }

    /** A street with something in each place: DAYS, a ROW, both RULES, two kept ones, and THE TEXT of one more person. */
    static MoreThanHalf rich() {
        MoreThanHalf x = Checks.of(STREET);
        Checks.rule(x, 0, "n-p*s");
        Checks.rule(x, 1, "o+d*10");
        x.keep(0);
        x.talk(2);
        x.go(2);
        x.set(3, 0, 70);
        x.keep(1);
        x.meet(1, 3, 7);
        x.set(0, 0, 45);
        x.go(1);
        x.rest();
        return Checks.give(x, "n7,6");
    }

    /** All but what is kept and what THE TEXT says, for up to 14 PEOPLE. */
    static String look(MoreThanHalf x, boolean withRow) {
        StringBuilder all = new StringBuilder();
        int people = x.count(0);
        int days = x.count(1);
        int numbers = withRow ? x.count(5) : 0;
        all.append(people).append(' ').append(days).append(' ').append(numbers);
        for (int what : new int[] { 2, 3, 4, 6, 7 }) {
            all.append(' ').append(x.count(what));
        }
        for (int day = 0; day <= days; day++) {
            all.append(day == 0 ? " states " : ",").append(x.state(day));
        }
        for (int i = 0; i < people; i++) {
            for (int what = 0; what < 6; what++) {
                all.append(' ').append(x.person(i, what));
            }
            for (int j = 0; j < people; j++) {
                all.append('.').append(x.hears(i, j));
            }
            all.append('/').append(x.rates(0, i)).append('/').append(x.rates(1, i));
        }
        for (int i = 0; i < numbers; i++) {
            all.append(i == 0 ? " row " : ",").append(x.row(i));
        }
        return all.toString();
    }

    /** All there is, also what is kept and what THE TEXT says: the street is another one behind it. */
    private static String everything(MoreThanHalf x, boolean withRow) {
        String all = look(x, withRow);
        for (int i = 0; i < 2; i++) {
            all += " again " + x.again(i) + ": " + look(x, withRow);
        }
        return all + " street " + x.street() + ": " + look(x, withRow);
    }

    private static void alike(Checks checks, String call, MoreThanHalf asked, MoreThanHalf other, boolean withRow) {
        String got = everything(asked, withRow);
        String want = everything(other, withRow);
        checks.due(call + " leaves all as it was: " + got + " instead of " + want, got.equals(want), true);
    }

    /** Behind such a call all others answer as if it had not been made. */
    static void leaves(Checks checks, String call, long answer, Call asking) {
        MoreThanHalf asked = rich();
        checks.due(call, asking.ask(asked), answer);
        alike(checks, call, asked, rich(), true);
    }

    static void refused(Checks checks, String call, Call asking) {
        leaves(checks, call, MoreThanHalf.NONE, asking);
    }

    /** It throws what the document names, and behind it all others answer as if it had not been made. */
    static void throwsNoSuch(Checks checks, String call, Call asking) {
        MoreThanHalf asked = rich();
        boolean thrown = false;
        try {
            asking.ask(asked);
        } catch (NoSuchElementException e) {
            thrown = true;
        }
        checks.due(call + " throws NoSuchElementException", thrown, true);
        alike(checks, call, asked, rich(), true);
    }

    /** A refused call that reads THE TEXT: it is empty then, and all else as if the call had not been made. */
    static void empties(Checks checks, String call, String text, long answer, Call asking) {
        MoreThanHalf asked = rich();
        asked.end(0);
        checks.due(call, asking.ask(Checks.give(asked, text)), answer);
        checks.due(call + " empties THE TEXT", asked.count(6), 0);
        MoreThanHalf other = rich();
        other.end(0);
        alike(checks, call, asked, other, true);
    }

    /** It answers, and tells the ROW, but changes nothing. */
    static void onlyTells(Checks checks, String call, Call asking) {
        MoreThanHalf asked = rich();
        asking.ask(asked);
        alike(checks, call, asked, rich(), false);
    }
}

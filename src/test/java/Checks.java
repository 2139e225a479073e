import java.util.NoSuchElementException;

/** What the tests share: counting wrong answers, and texts given sign by sign. */
final class Checks {
    private final String test;
    private String sentence = "";
    private int sentences;
    private int asked;
    private int wrong;

    Checks(String test) {
        this.test = test;
    }

    interface Call {
        long ask();
    }

    /** From here on it is asked what the document says with these words, of a promise or (0) ahead of them. */
    void sentence(int promise, String words) {
        sentence = promise + " \"" + words + "\": ";
        sentences++;
    }

    int asked() {
        return asked;
    }

    void due(String what, long got, long want) {
        asked++;
        if (got != want) {
            wrong++;
            System.out.println(test + ": " + sentence + what + " answered " + got + ", due is " + want);
        }
    }

    void due(String what, boolean got, boolean want) {
        due(what, got ? 1 : 0, want ? 1 : 0);
    }

    void throwsNoSuch(String what, Call call) {
        boolean thrown = false;
        try {
            call.ask();
        } catch (NoSuchElementException e) {
            thrown = true;
        }
        due(what + " throws NoSuchElementException", thrown, true);
    }

    /** The whole ROW, as a call told it. */
    void row(String what, MoreThanHalf x, long... want) {
        due(what + ": numbers of the ROW", x.count(5), want.length);
        for (int i = 0; i < want.length && i < x.count(5); i++) {
            due(what + ": row(" + i + ")", x.row(i), want[i]);
        }
        throwsNoSuch(what + ": row(" + want.length + ")", () -> x.row(want.length));
    }

    /** What a call answered, and the whole ROW behind it. */
    void tells(String what, MoreThanHalf x, long got, long want, long... row) {
        due(what, got, want);
        row(what, x, row);
    }

    void end() {
        String of = sentences > 0 ? sentences + " sentences, " : "";
        System.out.println(test + ": " + of + asked + " answers, " + wrong + " wrong");
        if (asked == 0 || wrong > 0) {
            System.exit(1);
        }
    }

    static MoreThanHalf give(MoreThanHalf x, String text) {
        for (int p = 0; p < text.length(); p += 4) {
            int v = 0;
            for (int k = p; k < p + 4; k++) {
                v = v << 8 | (k < text.length() ? text.charAt(k) & 255 : 0);
            }
            x.sign(v);
        }
        x.end(text.length());
        return x;
    }

    static int street(MoreThanHalf x, String text) {
        return give(x, text).street();
    }

    static int rule(MoreThanHalf x, int shop, String text) {
        return give(x, text).rule(shop);
    }

    /** A new object with a street of as many texts as it takes. */
    static MoreThanHalf of(String... texts) {
        MoreThanHalf x = new MoreThanHalf();
        for (String text : texts) {
            if (street(x, text) < 0) {
                throw new IllegalArgumentException("no street: " + text);
            }
        }
        return x;
    }
}

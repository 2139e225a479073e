/** Streets that more than one test asks. */
final class Streets {
    static final int ALL_14 = (1 << 14) - 1;
    /** A STATE and the one behind it: 0-0, 1-0, 2-5, 3-5, 4-0, 5-2, 6-5, 7-7. */
    static final String LINE = "b50,3;n50,2;n40,1;0-1*1;1-2*1";
    /** Any number at all that is far from what is allowed. */
    static final int[] FAR = { Integer.MIN_VALUE, Integer.MAX_VALUE };

    private Streets() {
    }

    static MoreThanHalf line() {
        return Checks.of(LINE);
    }

    static String lines(String line, int many) {
        StringBuilder text = new StringBuilder(line);
        for (int k = 1; k < many; k++) {
            text.append(';').append(line);
        }
        return text.toString();
    }

    /** So many PEOPLE, all told by the same LINE. */
    static MoreThanHalf alike(int people, String line) {
        return more(new MoreThanHalf(), people, line);
    }

    static MoreThanHalf more(MoreThanHalf x, int people, String line) {
        for (int i = 0; i < people; i++) {
            tell(x, line);
        }
        return x;
    }

    static void tell(MoreThanHalf x, String text) {
        if (Checks.street(x, text) < 0) {
            throw new IllegalArgumentException("no street: " + text);
        }
    }

    /** 0 is FIRM and BELIEVES, each other one hears the one ahead of it alone: a DAY brings one more. */
    static MoreThanHalf chain(int people) {
        MoreThanHalf x = more(Checks.of("b50,0!"), people - 1, "n50,1");
        for (int i = 1; i < people; i++) {
            tell(x, i - 1 + ">" + i + "*1");
        }
        return x;
    }

    /** Rings of such sizes: each hears the next one, the last one the first; the first one of each BELIEVES. */
    static MoreThanHalf rings(int... sizes) {
        MoreThanHalf x = new MoreThanHalf();
        int start = 0;
        for (int size : sizes) {
            tell(x, "b50,1");
            more(x, size - 1, "n50,1");
            for (int i = 0; i < size; i++) {
                tell(x, start + (i + 1) % size + ">" + (start + i) + "*1");
            }
            start += size;
        }
        return x;
    }

    /**
     * Each of 0 .. 12 hears the next one, 13 hears 0 and 1: gone through one by one it is a register of 13 places, into
     * which comes, each round, whether there was one 12 or 13 rounds ago. From one it takes long till all BELIEVE.
     */
    static MoreThanHalf register(int state) {
        MoreThanHalf x = new MoreThanHalf();
        for (int i = 0; i < 14; i++) {
            tell(x, (state >> i & 1) == 1 ? "b0,1" : "n0,1");
        }
        for (int i = 0; i < 13; i++) {
            tell(x, i + 1 + ">" + i + "*1");
        }
        tell(x, "0>13*1;1>13*1");
        return x;
    }
}

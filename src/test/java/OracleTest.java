import java.lang.reflect.InvocationTargetException;
import java.lang.reflect.Method;
import java.util.ArrayList;
import java.util.List;
import java.util.NoSuchElementException;
import java.util.Random;

/** Random runs of all calls, right and wrong ones: MoreThanHalf has to answer, and to change, as Plain does. */
public final class OracleTest {
    // Of each call: its name and what its arguments are like.
    private static final String[] CALLS = {
        "person i w", "set i w v", "hears i i", "sheet k m x x", "alike", "state d", "go g", "talk b", "behind b", "rest",
        "fall d", "falls", "swings", "otherwise i g", "onebyone", "level t", "hops i i", "part i", "ahead a", "twins b",
        "first", "last", "fates", "fewest b t", "cheapest b t", "daily b y", "plan b y", "guard b", "holds", "shield i",
        "bound", "rates s i", "picks s", "market r", "game a", "against y", "change t", "single t", "meet i i l", "keep s",
        "again s", "count w", "row w", "talk o", "talk o", "go q", "sheet k m v l",
    };

    private final Random random;
    private MoreThanHalf x;
    private Plain plain;
    private final List<String> run = new ArrayList<>();
    private final int mostPeople;
    private final int mostDaily;

    private OracleTest(long seed, int mostPeople, int mostDaily) {
        this.random = new Random(seed);
        this.mostPeople = mostPeople;
        this.mostDaily = mostDaily;
    }

    public static void main(String[] args) throws Exception {
        int seeds = args.length > 0 ? Integer.parseInt(args[0]) : 1500;
        int from = args.length > 1 ? Integer.parseInt(args[1]) : 1;
        for (int seed = from; seed < from + seeds; seed++) {
            new OracleTest(seed, 4, 6).go();
            new OracleTest(-seed, 6, 3).go();
        }
        System.out.println("OracleTest: " + 2 * seeds + " runs, all alike");
    }

    private void go() throws Exception {
        x = new MoreThanHalf();
        plain = new Plain();
        for (int k = 0; k < 120; k++) {
            int dice = random.nextInt(100);
            if (k == 0 || dice < 4) {
                giveText(streetText());
                ask("street");
            } else if (dice < 8) {
                giveText(ruleText());
                ask("rule", random.nextInt(20) == 0 ? pick(-1, 2, 100) : random.nextInt(2));
            } else if (dice < 9) {
                ask("end", pick(-1, 0, 1, 5, 81, Integer.MIN_VALUE, Integer.MAX_VALUE));
            } else {
                askOne(CALLS[random.nextInt(CALLS.length)]);
            }
        }
    }

    private int pick(int... of) {
        return of[random.nextInt(of.length)];
    }

    private void askOne(String call) throws Exception {
        String[] words = call.split(" ");
        Object[] arguments = new Object[words.length - 1];
        for (int k = 1; k < words.length; k++) {
            arguments[k - 1] = argument(words[k].charAt(0));
        }
        ask(words[0], arguments);
    }

    private int argument(char kind) {
        int people = plain.count(0);
        if (random.nextInt(40) == 0) {
            return pick(-1, -2, 100, 16384, Integer.MIN_VALUE, Integer.MAX_VALUE, 1 << people, 61, 201, 21, 7, 4, 15);
        }
        switch (kind) {
            case 'i': return random.nextInt(people + 1);
            case 'w': return random.nextInt(9) - 1;
            case 'v': return pick(0, 9, 10, 49, 50, 51, 99, 100, random.nextInt(100), random.nextInt(10));
            case 'k': return random.nextInt(5) - random.nextInt(2);
            case 'm': return pick(0, 1, 2, 3, 4, 5, 14, 15, -1);
            case 'x': return pick(random.nextInt(), random.nextInt(200), 128, -129, 255, 65535, 32768, 1, 40);
            case 'd': return random.nextInt(plain.count(1) + 2);
            case 'g': return pick(0, 1, 2, 3, 199, 200, random.nextInt(200));
            case 'q': return random.nextInt(4);
            case 't': return pick(0, 1, 2, 3, 5, 19, 20, random.nextInt(21));
            case 'b': return random.nextInt(1 << people);
            case 'o': return 1 << random.nextInt(people + 1);
            case 'a': return random.nextInt(5);
            case 'y': return random.nextInt(mostDaily + 1);
            case 's': return random.nextInt(8) == 0 ? 2 : random.nextInt(2);
            case 'r': return pick(0, 1, 2, 60, random.nextInt(60));
            default: return random.nextInt(11);
        }
    }

    private void giveText(String text) throws Exception {
        String full = text;
        while (full.length() % 4 != 0) {
            full += (char) random.nextInt(256);
        }
        for (int p = 0; p < full.length(); p += 4) {
            ask("sign", full.charAt(p) << 24 | full.charAt(p + 1) << 16 | full.charAt(p + 2) << 8 | full.charAt(p + 3));
        }
        ask("end", text.length());
    }

    private String streetText() {
        StringBuilder text = new StringBuilder();
        int people = plain.count(0);
        int lines = random.nextInt(20) == 0 ? 40 : random.nextInt(12);
        for (int k = 0; k < lines; k++) {
            text.append(k > 0 ? ";" : "");
            if (people < 2 || people < mostPeople && random.nextInt(3) > 0) {
                text.append(random.nextBoolean() ? 'b' : 'n').append(argumentNeed()).append(',').append(random.nextInt(10));
                text.append(random.nextInt(6) == 0 ? "!" : "");
                people++;
            } else {
                int one = random.nextInt(people);
                int other = (one + 1 + random.nextInt(people - 1)) % people;
                text.append(random.nextInt(5) == 0 ? "0" : "").append(one).append(random.nextInt(4) == 0 ? '>' : '-');
                text.append(random.nextInt(5) == 0 ? "0" : "").append(other).append('*').append(random.nextInt(10));
            }
        }
        return spoilt(text, "bn0123456789,;-*>!x");
    }

    private int argumentNeed() {
        return pick(0, 9, 33, 49, 50, 51, 66, 99, random.nextInt(100));
    }

    private String spoilt(StringBuilder text, String signs) {
        if (text.length() > 0 && random.nextInt(4) == 0) {
            char sign = random.nextInt(9) == 0 ? (char) random.nextInt(256) : signs.charAt(random.nextInt(signs.length()));
            int p = random.nextInt(text.length());
            switch (random.nextInt(3)) {
                case 0: text.setCharAt(p, sign); break;
                case 1: text.insert(p, sign); break;
                default: text.setLength(p); break;
            }
        }
        text.setLength(Math.min(80, text.length()));
        return text.toString();
    }

    private String ruleText() {
        StringBuilder text = new StringBuilder();
        if (random.nextInt(12) > 0) {
            expression(text, 0);
        }
        if (text.length() > 40 && random.nextInt(3) > 0) {
            text.setLength(random.nextInt(10));
            text.append("s-p");
        }
        return spoilt(text, "inpasod0123456789()+-*/<>=x");
    }

    private void expression(StringBuilder text, int depth) {
        sum(text, depth);
        if (random.nextInt(4) == 0) {
            text.append("<>=".charAt(random.nextInt(3)));
            sum(text, depth);
        }
    }

    private void sum(StringBuilder text, int depth) {
        int things = 1 + random.nextInt(3);
        for (int k = 0; k < things; k++) {
            if (k > 0) {
                text.append("+-*/".charAt(random.nextInt(4)));
            }
            text.append("---".substring(random.nextInt(10) == 0 ? random.nextInt(3) : 3));
            int dice = random.nextInt(10);
            if (dice < 2 && depth < 5) {
                text.append('(');
                expression(text, depth + 1);
                text.append(')');
            } else if (dice < 4) {
                text.append(random.nextInt(pick(3, 11, 101, 1000)));
            } else {
                text.append("inpasod".charAt(random.nextInt(7)));
            }
        }
    }

    private static Object answer(Object of, String name, Object... arguments) throws Exception {
        for (Method method : of.getClass().getDeclaredMethods()) {
            boolean isFace = !java.lang.reflect.Modifier.isPrivate(method.getModifiers());
            if (isFace && method.getName().equals(name) && method.getParameterCount() == arguments.length) {
                method.setAccessible(true);
                try {
                    return String.valueOf(method.invoke(of, arguments));
                } catch (InvocationTargetException e) {
                    if (e.getCause() instanceof NoSuchElementException) {
                        return "throws NoSuchElementException";
                    }
                    throw new IllegalStateException(name + java.util.Arrays.toString(arguments), e.getCause());
                }
            }
        }
        throw new IllegalArgumentException(name);
    }

    private void ask(String name, Object... arguments) throws Exception {
        String call = name + java.util.Arrays.toString(arguments);
        run.add(call);
        Object want = answer(plain, name, arguments);
        Object got = answer(x, name, arguments);
        run.add("  " + got);
        if (!got.equals(want)) {
            fail(call + " answered " + got + ", due is " + want);
        }
        if (!name.equals("sign")) {
            compareAll(call);
        }
    }

    private void compareAll(String call) {
        for (int what = 0; what < 8; what++) {
            same(call + " and count(" + what + ")", x.count(what), plain.count(what));
        }
        for (int i = 0; i < plain.count(5); i++) {
            same(call + " and row(" + i + ")", x.row(i), plain.row(i));
        }
        int day = plain.count(1);
        same(call + " and state(" + day + ")", x.state(day), plain.state(day));
        for (int i = 0; i < plain.count(0); i++) {
            for (int what = 1; what < 3; what++) {
                same(call + " and person(" + i + ", " + what + ")", x.person(i, what), plain.person(i, what));
            }
            for (int j = 0; j < plain.count(0); j++) {
                same(call + " and hears(" + i + ", " + j + ")", x.hears(i, j), plain.hears(i, j));
            }
        }
    }

    private void same(String what, long got, long want) {
        if (got != want) {
            fail(what + " answered " + got + ", due is " + want);
        }
    }

    private void fail(String what) {
        for (String line : run) {
            System.out.println(line);
        }
        System.out.println("OracleTest: " + what);
        System.exit(1);
    }
}

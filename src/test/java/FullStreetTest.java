import java.util.Random;

/** Streets of 14 PEOPLE, where each call is dearest: MoreThanHalf has to answer as Plain does. */
public final class FullStreetTest {
    private static final Checks CHECKS = new Checks("FullStreetTest");
    private final Random random;
    private final MoreThanHalf x = new MoreThanHalf();
    private final Plain plain = new Plain();
    private String name;

    private FullStreetTest(long seed) {
        random = new Random(seed);
        name = "seed " + seed;
    }

    public static void main(String[] args) {
        int seeds = args.length > 0 ? Integer.parseInt(args[0]) : 12;
        for (int seed = 1; seed <= seeds; seed++) {
            new FullStreetTest(seed).go();
        }
        CHECKS.end();
    }

    private void go() {
        boolean alike = random.nextBoolean();
        for (int i = 0; i < 14; i++) {
            tell((random.nextInt(3) == 0 ? "b" : "n") + random.nextInt(random.nextBoolean() ? 100 : 60) + ","
                    + random.nextInt(10) + (random.nextInt(7) == 0 ? "!" : ""));
        }
        int many = 14 + random.nextInt(40);
        for (int k = 0; k < many; k++) {
            int one = random.nextInt(14);
            int other = (one + 1 + random.nextInt(13)) % 14;
            tell(one + (alike || random.nextBoolean() ? "-" : ">") + other + "*" + random.nextInt(10));
        }
        CHECKS.due(name + " another one", Checks.street(x, "n50,1"), -1);
        askDays();
        askAhead();
        askTalking();
        askShops();
        askPairs();
        CHECKS.due(name + " go", x.go(200), plain.go(200));
        CHECKS.due(name + " falls", x.falls(), plain.falls());
        sameRow("falls");
        askDays();
    }

    private void tell(String line) {
        Checks.street(x, line);
        give(line);
        plain.street();
    }

    private void give(String text) {
        for (int p = 0; p < text.length(); p += 4) {
            int v = 0;
            for (int k = p; k < p + 4; k++) {
                v = v << 8 | (k < text.length() ? text.charAt(k) : 0);
            }
            plain.sign(v);
        }
        plain.end(text.length());
    }

    private void sameRow(String call) {
        CHECKS.due(name + " " + call + " count(5)", x.count(5), plain.count(5));
        for (int i = 0; i < plain.count(5); i++) {
            CHECKS.due(name + " " + call + " row(" + i + ")", x.row(i), plain.row(i));
        }
    }

    private void same(String call, long got, long want) {
        CHECKS.due(name + " " + call, got, want);
        sameRow(call);
    }

    private void askDays() {
        for (int k = 0; k < 50; k++) {
            int state = random.nextInt(16384);
            same("behind " + state, x.behind(state), plain.behind(state));
        }
        same("rest", x.rest(), plain.rest());
        same("swings", x.swings(), plain.swings());
        for (int i = 0; i < 14; i++) {
            same("person 4 of " + i, x.person(i, 4), plain.person(i, 4));
            same("person 5 of " + i, x.person(i, 5), plain.person(i, 5));
            same("otherwise " + i, x.otherwise(i, i), plain.otherwise(i, i));
        }
        same("onebyone", x.onebyone(), plain.onebyone());
        for (int n = 0; n <= 20; n += 5) {
            same("level " + n, x.level(n), plain.level(n));
        }
        same("part", x.part(5), plain.part(5));
        same("alike", x.alike(), plain.alike());
    }

    private void askAhead() {
        for (int n = 1; n <= 3; n++) {
            same("ahead " + n, x.ahead(n), plain.ahead(n));
        }
        int state = random.nextInt(16384);
        same("twins " + state, x.twins(state), plain.twins(state));
        same("fates", x.fates(), plain.fates());
        same("last", x.last(), plain.last());
    }

    private void askTalking() {
        int wanted = random.nextInt(16384) & random.nextInt(16384);
        same("fewest", x.fewest(wanted, 20), plain.fewest(wanted, 20));
        same("fewest of all", x.fewest(16383, 4), plain.fewest(16383, 4));
        for (int n = 0; n <= 3; n++) {
            same("daily " + n, x.daily(wanted, n), plain.daily(wanted, n));
            same("plan " + n, x.plan(wanted, n), plain.plan(wanted, n));
        }
        same("shield", x.shield(3), shieldByHand());
    }

    /** Plain would look at each set against each STATE: too many here. The greatest STATE without the set is enough. */
    private int shieldByHand() {
        int firm = plain.count(3);
        int now = plain.state(plain.count(1));
        int best = 0;
        for (int set = 1; set < 16384; set++) {
            boolean open = (set & (firm | now)) == 0 && (set >> 3 & 1) == 1;
            boolean fewer = best == 0 || Integer.bitCount(set) < Integer.bitCount(best);
            if (open && fewer && (plain.behind(16383 & ~set & ~firm | now & firm) & set) == 0) {
                best = set;
            }
        }
        CHECKS.due(name + " shield's row", best == 0 || x.row(0) == best, true);
        plain.part(0);
        x.part(0);
        return best == 0 ? -2 : Integer.bitCount(best);
    }

    private void askShops() {
        String[] rules = { "s*9-p+(a<o)", "i-14*(n>50)", "-s/d+o", "" };
        for (int shop = 0; shop < 2; shop++) {
            String rule = rules[random.nextInt(rules.length)];
            give(rule);
            CHECKS.due(name + " rule", Checks.rule(x, shop, rule), plain.rule(shop));
            for (int i = 0; i < 14; i++) {
                same("rates " + i, x.rates(shop, i), plain.rates(shop, i));
            }
            same("picks", x.picks(shop), plain.picks(shop));
        }
        same("market 60", x.market(60), plain.market(60));
        for (int n = 0; n <= 2; n++) {
            same("game " + n, x.game(n), plain.game(n));
            same("against " + n, x.against(n), plain.against(n));
        }
    }

    private void askPairs() {
        int n = random.nextInt(21);
        same("single " + n, x.single(n), plain.single(n));
        same("change " + n, x.change(n), plain.change(n));
    }
}

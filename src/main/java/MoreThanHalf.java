import java.util.Arrays;
import java.util.NoSuchElementException;

/** Whoever hears it from more than half: a street of PEOPLE and what each of them BELIEVES, DAY by DAY. */
public final class MoreThanHalf {
    public static final int NONE = -1;

    private static final int NEVER = -2;
    private static final int NO_ENTRIES = -2;
    private static final int NO_SHEET = -3;
    private static final int NO_SUCH_RULE = -100;

    private static final int MOST_PEOPLE = 14;
    private static final int MOST_DAYS = 200;
    private static final int MOST_NEED = 99;
    private static final int MOST_PRICE = 9;
    private static final int MOST_LOUD = 9;
    private static final int USUAL_NEED = 50;
    private static final int MOST_ROUNDS = 100;

    private static final int TEXT_SIGNS = 80;
    private static final int STREET_SIGNS = 76;
    private static final int RULE_SIGNS = 40;

    private static final int FARTHEST_AHEAD = 3;
    private static final int FARTHEST_TALK = 20;
    private static final int FARTHEST_DAILY = 6;
    private static final int FARTHEST_MARKET = 60;
    private static final int FARTHEST_GAME = 3;
    private static final int FARTHEST_AGAINST = 6;

    private static final int SHOPS = 2;
    private static final int KEPT = 2;

    private final int[] text = new int[TEXT_SIGNS];
    private int signs;
    private final Row told = new Row();
    private final Street street = new Street();
    private final Street[] kept = { new Street(), new Street() };
    private final boolean[] isKept = new boolean[KEPT];
    private final Rule[] rules = { new Rule(), new Rule() };
    private final StreetReader streetReader = new StreetReader(street);
    private final RuleReader ruleReader = new RuleReader(rules);
    private final Hearing hearing = new Hearing(street);
    private final Memo memo = new Memo();
    private final Orbits orbits = new Orbits(street, hearing, memo, told);
    private final Talking talking = new Talking(street, hearing, memo, told);
    private final Shops shops = new Shops(street, hearing, memo, rules, told);
    private final Acquaintances acquaintances = new Acquaintances(street, told);

    public MoreThanHalf() {
    }

    // ---- the street

    public int sign(int v) {
        if (signs + 4 > TEXT_SIGNS) {
            return NONE;
        }
        for (int shift = 24; shift >= 0; shift -= 8) {
            text[signs++] = v >>> shift & 255;
        }
        return signs;
    }

    public boolean end(int n) {
        if (n < 0 || n > signs) {
            return false;
        }
        signs = n;
        return true;
    }

    public int street() {
        int length = signs;
        signs = 0;
        return streetReader.read(text, length);
    }

    public int person(int i, int what) throws NoSuchElementException {
        if (!street.has(i) || what < 0 || what > 5) {
            throw new NoSuchElementException();
        }
        switch (what) {
            case 0: return street.now() >> i & 1;
            case 1: return street.need[i];
            case 2: return street.price[i];
            case 3: return street.firm >> i & 1;
            case 4: return street.allOf(i);
            default: return street.loudnessOf(i);
        }
    }

    public int set(int i, int what, int v) {
        if (!street.has(i) || v < 0) {
            return NONE;
        }
        if (what == 0 && v <= MOST_NEED) {
            int was = street.need[i];
            street.putNeed(i, v);
            return was;
        }
        if (what == 1 && v <= MOST_PRICE) {
            int was = street.price[i];
            street.price[i] = v;
            return was;
        }
        return NONE;
    }

    public int hears(int one, int other) {
        return areTwo(one, other) ? street.loud[one][other] : NONE;
    }

    public int sheet(int kind, int n, int f, int step) {
        if (kind < 0 || kind > 3 || n > MOST_PEOPLE) {
            return NONE;
        }
        if (kind < 3 && n < 0) {
            return NO_ENTRIES;
        }
        int entries = kind == 3 ? 0 : n;
        int sum = 0;
        for (int i = 0; i < street.people; i++) {
            int need = i < entries ? entry(kind, f + i * step) : USUAL_NEED;
            street.putNeed(i, need);
            sum += need;
        }
        return kind == 3 ? NO_SHEET : sum;
    }

    private static int entry(int kind, int v) {
        int read = kind == 0 ? (byte) v : kind == 1 ? (short) v : v;
        return Math.max(0, Math.min(MOST_NEED, read));
    }

    public int alike() {
        for (int i = 0; i < street.people; i++) {
            for (int j = 0; j < i; j++) {
                if (street.loud[i][j] != street.loud[j][i]) {
                    return 0;
                }
            }
        }
        return 1;
    }

    private boolean areTwo(int one, int other) {
        return street.has(one) && street.has(other) && one != other;
    }

    // ---- days

    public int state(int day) {
        return day < 0 || day > street.days ? NONE : street.states[day];
    }

    public int go(int n) {
        if (n < 0 || n > MOST_DAYS) {
            return NONE;
        }
        for (int gone = 0; gone < n && street.days < MOST_DAYS; gone++) {
            street.passDay(hearing.after(street.now()));
        }
        return street.now();
    }

    public int talk(int people) {
        if (!street.hasAll(people) || (people & ~street.openToTalk()) != 0) {
            return NONE;
        }
        street.states[street.days] |= people;
        return street.priceOf(people);
    }

    public int behind(int state) {
        return street.hasAll(state) ? hearing.after(state) : NONE;
    }

    public int rest() {
        orbits.follow(street.now());
        told.only(orbits.period);
        told.add(orbits.entry);
        told.add(orbits.least);
        return orbits.till;
    }

    public long fall(int day) {
        return day < 1 || day > street.days ? NONE : street.fallOf(day);
    }

    public long falls() {
        int notLess = NONE;
        int more = NONE;
        for (int day = street.days; day >= 2; day--) {
            long rise = street.fallOf(day) - street.fallOf(day - 1);
            notLess = rise >= 0 ? day : notLess;
            more = rise > 0 ? day : more;
        }
        told.only(notLess);
        told.add(more);
        return street.days < 2 ? 0 : street.fallOf(1) - street.fallOf(street.days);
    }

    public int swings() {
        orbits.follow(street.now());
        told.only(orbits.always);
        return orbits.ever & ~orbits.always;
    }

    public int otherwise(int i, int n) {
        if (!street.has(i) || street.isFirm(i) || n < 0 || n > MOST_DAYS) {
            return NONE;
        }
        int now = street.now();
        return hearing.later(now, n) ^ hearing.later(now ^ 1 << i, n);
    }

    public int onebyone() {
        int state = street.now();
        int changed = 0;
        for (int rounds = 0; rounds <= MOST_ROUNDS; rounds++) {
            int before = changed;
            for (int i = 0; i < street.people; i++) {
                int differs = (hearing.after(state) ^ state) & 1 << i;
                state ^= differs;
                changed += differs >> i;
            }
            if (changed == before) {
                told.only(state);
                told.add(changed);
                return rounds;
            }
        }
        return NEVER;
    }

    public int level(int n) {
        return isTalkDay(n) ? acquaintances.highestNeed(n) : NONE;
    }

    public int hops(int from, int to) {
        if (!street.has(from) || !street.has(to)) {
            return NONE;
        }
        return street.passOn(from, to, told);
    }

    public int part(int i) {
        if (!street.has(i)) {
            return NONE;
        }
        int parts = 0;
        int seen = 0;
        for (int j = 0; j < street.people; j++) {
            if ((seen >> j & 1) == 0) {
                parts++;
                seen |= street.partOf(j);
            }
        }
        told.only(parts);
        return street.partOf(i);
    }

    private static boolean isTalkDay(int n) {
        return n >= 0 && n <= FARTHEST_TALK;
    }

    // ---- days ahead

    public int ahead(int n) {
        return n < 1 || n > FARTHEST_AHEAD ? NONE : orbits.leadHere(n);
    }

    public int twins(int state) {
        return street.hasAll(state) ? orbits.meetWith(state) : NONE;
    }

    public int first() {
        return orbits.withoutPast();
    }

    public int last() {
        return orbits.comeAgain();
    }

    public int fates() {
        int all = orbits.leadTo(street.everybody());
        told.only(orbits.leadTo(0));
        return all;
    }

    // ---- talking round

    public int fewest(int people, int n) {
        return street.hasAll(people) && isTalkDay(n) ? talking.atOnce(people, n, false) : NONE;
    }

    public int cheapest(int people, int n) {
        return street.hasAll(people) && isTalkDay(n) ? talking.atOnce(people, n, true) : NONE;
    }

    public int daily(int people, int n) {
        return isDaily(people, n) ? talking.dayByDay(people, n) : NONE;
    }

    public int plan(int people, int n) {
        return isDaily(people, n) ? talking.wholePlan(people, n) : NONE;
    }

    private boolean isDaily(int people, int n) {
        return street.hasAll(people) && n >= 0 && n <= FARTHEST_DAILY;
    }

    public int guard(int people) {
        return street.hasAll(people) ? talking.keepFrom(people) : NONE;
    }

    public int holds() {
        int they = talking.greatestHolding();
        told.only(they);
        return Integer.bitCount(they);
    }

    public int shield(int i) {
        if (!street.has(i)) {
            return NONE;
        }
        int they = talking.smallestHolding(talking.greatestHolding(), 1 << i);
        if (they == 0) {
            return NEVER;
        }
        told.only(they);
        return Integer.bitCount(they);
    }

    public int bound() {
        return talking.holdApart();
    }

    // ---- two shops

    public int rule(int shop) {
        int length = signs;
        signs = 0;
        return isShop(shop) ? ruleReader.read(text, length, shop) : NO_SUCH_RULE;
    }

    public int rates(int shop, int i) throws NoSuchElementException {
        if (!isShop(shop) || !street.has(i)) {
            throw new NoSuchElementException();
        }
        shops.learn();
        return shops.rate(shop, i, street.now());
    }

    public int picks(int shop) {
        if (!isShop(shop)) {
            return NONE;
        }
        shops.learn();
        return shops.pick(shop, street.now());
    }

    public int market(int n) {
        return n < 0 || n > FARTHEST_MARKET ? NONE : shops.trade(n);
    }

    public int game(int n) {
        return n < 0 || n > FARTHEST_GAME ? NONE : shops.playBoth(n);
    }

    public int against(int n) {
        return n < 0 || n > FARTHEST_AGAINST ? NONE : shops.playRule(n);
    }

    private static boolean isShop(int shop) {
        return shop >= 0 && shop < SHOPS;
    }

    // ---- acquaintances

    public int change(int n) {
        return isTalkDay(n) ? acquaintances.fewestPairs(n) : NONE;
    }

    public int single(int n) {
        return isTalkDay(n) ? acquaintances.pairsAlone(n) : NONE;
    }

    public int meet(int one, int other, int v) {
        if (!areTwo(one, other) || v < 0 || v > MOST_LOUD) {
            return NONE;
        }
        int was = street.loud[one][other];
        street.putLoud(one, other, v);
        street.putLoud(other, one, v);
        return was;
    }

    // ---- kept

    public boolean keep(int i) {
        if (i < 0 || i >= KEPT) {
            return false;
        }
        kept[i].people = street.people;
        kept[i].takeDays(street);
        isKept[i] = true;
        return true;
    }

    public boolean again(int i) {
        if (i < 0 || i >= KEPT || !isKept[i] || kept[i].people != street.people) {
            return false;
        }
        street.takeDays(kept[i]);
        return true;
    }

    public int count(int what) {
        switch (what) {
            case 0: return street.people;
            case 1: return street.days;
            case 2: return Integer.bitCount(street.now());
            case 3: return street.firm;
            case 4: return (rules[0].isTold() ? 1 : 0) | (rules[1].isTold() ? 2 : 0);
            case 5: return told.size;
            case 6: return signs;
            case 7: return street.pairs();
            default: return NONE;
        }
    }

    public long row(int i) throws NoSuchElementException {
        if (i < 0 || i >= told.size) {
            throw new NoSuchElementException();
        }
        return told.numbers[i];
    }

    private static final class Row {
        private static final int MOST = 16;
        private final long[] numbers = new long[MOST];
        private int size;

        void clear() {
            size = 0;
        }

        void add(long number) {
            if (size < MOST) {
                numbers[size++] = number;
            }
        }

        void only(long number) {
            clear();
            add(number);
        }
    }

    /** PEOPLE, who hears whom how loud, and the DAYS that went by. */
    private static final class Street {
        private final int[] need = new int[MOST_PEOPLE];
        private final int[] price = new int[MOST_PEOPLE];
        private final int[][] loud = new int[MOST_PEOPLE][MOST_PEOPLE];
        private final int[] states = new int[MOST_DAYS + 1];
        private final int[] nearer = new int[MOST_PEOPLE + 1];
        private int people;
        private int firm;
        private int days;
        // Another one with each change of what a DAY brings, so that a Hearing knows when to learn anew.
        private int version = 1;

        int now() {
            return states[days];
        }

        int everybody() {
            return (1 << people) - 1;
        }

        boolean has(int i) {
            return i >= 0 && i < people;
        }

        boolean hasAll(int bits) {
            return bits >= 0 && bits <= everybody();
        }

        boolean isFirm(int i) {
            return (firm >> i & 1) != 0;
        }

        int openToTalk() {
            return everybody() & ~firm & ~now();
        }

        int priceOf(int bits) {
            int sum = 0;
            for (int i = 0; i < people; i++) {
                sum += (bits >> i & 1) * price[i];
            }
            return sum;
        }

        int sumHeard(int i, int bits) {
            int sum = 0;
            for (int j = 0; j < people; j++) {
                sum += (bits >> j & 1) * loud[i][j];
            }
            return sum;
        }

        int allOf(int i) {
            return sumHeard(i, everybody());
        }

        int loudnessOf(int i) {
            int sum = 0;
            for (int j = 0; j < people; j++) {
                sum += loud[j][i];
            }
            return sum;
        }

        private int heardByOne(int i) {
            int they = 0;
            for (int j = 0; j < people; j++) {
                they |= loud[i][j] > 0 ? 1 << j : 0;
            }
            return they;
        }

        int heardByAny(int bits) {
            int they = 0;
            for (int i = 0; i < people; i++) {
                they |= (bits >> i & 1) != 0 ? heardByOne(i) : 0;
            }
            return they;
        }

        int hearersOfAny(int bits) {
            int they = 0;
            for (int i = 0; i < people; i++) {
                they |= (heardByOne(i) & bits) != 0 ? 1 << i : 0;
            }
            return they;
        }

        int pairs() {
            int many = 0;
            for (int i = 0; i < people; i++) {
                for (int j = 0; j < i; j++) {
                    many += isPair(i, j) ? 1 : 0;
                }
            }
            return many;
        }

        boolean isPair(int one, int other) {
            return loud[one][other] > 0 || loud[other][one] > 0;
        }

        int partOf(int i) {
            int they = 1 << i;
            for (int step = 0; step < people; step++) {
                they |= hearersOfAny(they) | heardByAny(they);
            }
            return they;
        }

        // Going on, each time, to the first one who is a step nearer gives the least row.
        int passOn(int from, int to, Row told) {
            int seen = 1 << to;
            nearer[0] = seen;
            int steps = 0;
            while (steps < MOST_PEOPLE && (nearer[steps] >> from & 1) == 0) {
                nearer[steps + 1] = heardByAny(nearer[steps]) & ~seen;
                seen |= nearer[++steps];
            }
            if ((nearer[steps] >> from & 1) == 0) {
                return NEVER;
            }
            told.clear();
            int at = from;
            for (int left = steps - 1; left > 0; left--) {
                at = Integer.numberOfTrailingZeros(hearersOfAny(1 << at) & nearer[left]);
                told.add(at);
            }
            return steps;
        }

        long fallOf(int day) {
            int on = states[day];
            int ahead = states[day - 1];
            long sum = 0;
            for (int i = 0; i < people; i++) {
                int all = allOf(i);
                int times = (on >> i & 1) + (ahead >> i & 1);
                if (!isFirm(i) && all > 0) {
                    sum += times * (2L * need[i] * all + 1);
                }
                if ((on >> i & 1) != 0) {
                    sum -= 200L * sumHeard(i, ahead);
                }
            }
            return sum;
        }

        void putNeed(int i, int v) {
            need[i] = v;
            version++;
        }

        void putLoud(int one, int other, int v) {
            loud[one][other] = v;
            version++;
        }

        void passDay(int state) {
            if (days < MOST_DAYS) {
                states[++days] = state;
            }
        }

        void welcome(boolean believes, int needs, int costs, boolean isFirm) {
            if (people >= MOST_PEOPLE) {
                return;
            }
            states[0] = now() | (believes ? 1 << people : 0);
            days = 0;
            need[people] = needs;
            price[people] = costs;
            firm |= isFirm ? 1 << people : 0;
            people++;
            version++;
        }

        // PEOPLE themselves are the same, or it would be refused: so neither PRICES nor who is FIRM are taken.
        void takeDays(Street other) {
            days = other.days;
            System.arraycopy(other.states, 0, states, 0, MOST_DAYS + 1);
            System.arraycopy(other.need, 0, need, 0, MOST_PEOPLE);
            for (int i = 0; i < MOST_PEOPLE; i++) {
                System.arraycopy(other.loud[i], 0, loud[i], 0, MOST_PEOPLE);
            }
            version++;
        }
    }

    /** Reads THE STREET, once to see whether all of it can stand, and once more to tell it. */
    private static final class StreetReader {
        private final Street street;
        private int[] text;
        private int length;
        private int limit;
        private int at;
        private int there;
        private boolean telling;

        StreetReader(Street street) {
            this.street = street;
            this.text = new int[0];
        }

        int read(int[] signs, int many) {
            if (many == 0) {
                return 0;
            }
            text = signs;
            length = many;
            limit = Math.min(many, STREET_SIGNS);
            int lines = readLines(false);
            return lines < 0 ? lines : readLines(true);
        }

        private int readLines(boolean tells) {
            telling = tells;
            there = street.people;
            at = 0;
            for (int lines = 1; lines <= limit; lines++) {
                if (!readLine()) {
                    return -1 - at;
                }
                if (at >= limit) {
                    return length > limit ? -1 - limit : lines;
                }
                if (!take(';')) {
                    return -1 - at;
                }
            }
            return -1 - at;
        }

        private boolean readLine() {
            if (isNext('b') || isNext('n')) {
                return readPerson();
            }
            return readAcquaintance();
        }

        private boolean readPerson() {
            if (there >= MOST_PEOPLE) {
                return false;
            }
            boolean believes = isNext('b');
            at++;
            int need = number();
            if (need < 0 || !take(',')) {
                return false;
            }
            int price = digit();
            if (price < 0) {
                return false;
            }
            boolean firm = take('!');
            there++;
            if (telling) {
                street.welcome(believes, need, price, firm);
            }
            return true;
        }

        private boolean readAcquaintance() {
            int one = someoneBut(NONE);
            if (one < 0) {
                return false;
            }
            boolean both = take('-');
            if (!both && !take('>')) {
                return false;
            }
            int other = someoneBut(one);
            if (other < 0 || !take('*')) {
                return false;
            }
            int loud = digit();
            if (loud < 0) {
                return false;
            }
            if (telling) {
                street.putLoud(other, one, loud);
                if (both) {
                    street.putLoud(one, other, loud);
                }
            }
            return true;
        }

        private int someoneBut(int besides) {
            int who = number();
            if (who >= there || who >= 0 && who == besides) {
                at--;
                return NONE;
            }
            return who;
        }

        private int number() {
            int tens = digit();
            int ones = tens < 0 ? NONE : digit();
            return ones < 0 ? tens : tens * 10 + ones;
        }

        private int digit() {
            if (at >= limit || text[at] < '0' || text[at] > '9') {
                return NONE;
            }
            return text[at++] - '0';
        }

        private boolean isNext(char sign) {
            return at < limit && text[at] == sign;
        }

        private boolean take(char sign) {
            if (!isNext(sign)) {
                return false;
            }
            at++;
            return true;
        }
    }

    /**
     * How a DAY goes by. Each one's sum of how loud it hears those who BELIEVE lies in eight bits of one of two longs,
     * so that one addition serves eight PEOPLE at once; with the bar added, the highest of the eight bits tells
     * whether the sum is above the one's share.
     */
    private static final class Hearing {
        private static final int LANES = 8;
        private static final int LANE_BITS = 8;
        private static final long LANE = 255;
        private static final int HIGHEST_BIT = 7;
        private static final int JUST_BELOW = 127;
        private static final long LOWEST_OF_EACH = 0x0101010101010101L;
        private static final long GATHER = 0x0102040810204080L;
        private static final int STATE_BITS = 14;
        private static final int STATE = (1 << STATE_BITS) - 1;

        private final Street street;
        private final long[] low = new long[MOST_PEOPLE];
        private final long[] high = new long[MOST_PEOPLE];
        private final int[] all = new int[MOST_PEOPLE];
        private final int[] need = new int[MOST_PEOPLE];
        private long lowBar;
        private long highBar;
        private int moving;
        private int[] known = new int[0];
        private int version;

        Hearing(Street street) {
            this.street = street;
        }

        void learn() {
            moving = 0;
            lowBar = 0;
            highBar = 0;
            for (int i = 0; i < street.people; i++) {
                low[i] = 0;
                high[i] = 0;
                all[i] = 0;
                need[i] = street.need[i];
            }
            for (int i = 0; i < street.people; i++) {
                for (int j = 0; j < street.people; j++) {
                    addLoud(i, j, street.loud[i][j]);
                }
                raiseBar(i);
            }
            version = street.version;
        }

        void needAll(int v) {
            for (int i = 0; i < street.people; i++) {
                need[i] = v;
                raiseBar(i);
            }
        }

        // Made or ended by 1, and back as it is on the street by -1.
        void turnPair(int one, int other, int times) {
            int loud = street.isPair(one, other) ? 0 : 1;
            addLoud(one, other, times * (loud - street.loud[one][other]));
            addLoud(other, one, times * (loud - street.loud[other][one]));
            raiseBar(one);
            raiseBar(other);
        }

        private void addLoud(int one, int other, int v) {
            all[one] += v;
            if (one < LANES) {
                low[other] += (long) v << one * LANE_BITS;
            } else {
                high[other] += (long) v << (one - LANES) * LANE_BITS;
            }
        }

        private void raiseBar(int i) {
            long bar = JUST_BELOW - need[i] * all[i] / 100;
            if (i < LANES) {
                int shift = i * LANE_BITS;
                lowBar = lowBar & ~(LANE << shift) | bar << shift;
            } else {
                int shift = (i - LANES) * LANE_BITS;
                highBar = highBar & ~(LANE << shift) | bar << shift;
            }
            boolean moves = all[i] > 0 && (street.firm >> i & 1) == 0;
            moving = moves ? moving | 1 << i : moving & ~(1 << i);
        }

        int next(int state) {
            long lowSums = lowBar;
            long highSums = highBar;
            for (int i = 0; i < street.people; i++) {
                if ((state >> i & 1) != 0) {
                    lowSums += low[i];
                    highSums += high[i];
                }
            }
            int above = highest(lowSums) | highest(highSums) << LANES;
            return above & moving | state & ~moving;
        }

        private static int highest(long lanes) {
            return (int) ((lanes >>> HIGHEST_BIT & LOWEST_OF_EACH) * GATHER >>> 56);
        }

        // Kept by STATE, since a search asks for the same ones again and again.
        int after(int state) {
            if (version != street.version) {
                learn();
            }
            if (known.length <= street.everybody()) {
                known = new int[street.everybody() + 1];
            }
            int cell = known[state];
            if (cell >>> STATE_BITS == version) {
                return cell & STATE;
            }
            int then = next(state);
            known[state] = version << STATE_BITS | then;
            return then;
        }

        int later(int state, int days) {
            int at = state;
            for (int day = 0; day < days; day++) {
                int then = after(at);
                if (then == at) {
                    return at;
                }
                at = then;
            }
            return at;
        }

        int dayOf(int state, int wanted, int n) {
            int at = state;
            for (int day = 0; day <= n; day++) {
                if ((at & wanted) == wanted) {
                    return day;
                }
                int then = after(at);
                if (then == at) {
                    return NONE;
                }
                at = then;
            }
            return NONE;
        }
    }

    /** What a search has found out, by level and STATE; each search has its own stamp, so that nothing has to be wiped. */
    private static final class Memo {
        private static final int LEVELS = 7;
        private static final int VALUE_BITS = 15;
        private static final int VALUE = (1 << VALUE_BITS) - 1;
        private static final int MOST_STAMPS = (1 << 16) - 1;

        private int[] cells = new int[0];
        private int size;
        private int stamp;

        void begin(int people) {
            size = 1 << people;
            if (cells.length < LEVELS * size) {
                cells = new int[LEVELS * size];
                stamp = 0;
            }
            if (stamp == MOST_STAMPS) {
                Arrays.fill(cells, 0);
                stamp = 0;
            }
            stamp++;
        }

        int recall(int level, int state) {
            int cell = cells[level * size + state];
            return cell >>> VALUE_BITS == stamp ? cell & VALUE : NONE;
        }

        void note(int level, int state, int value) {
            cells[level * size + state] = stamp << VALUE_BITS | value;
        }
    }

    /** Where STATES lead to, and where they come from. */
    private static final class Orbits {
        private final Street street;
        private final Hearing hearing;
        private final Memo memo;
        private final Row told;
        private int till;
        private int period;
        private int entry;
        private int least;
        private int always;
        private int ever;

        Orbits(Street street, Hearing hearing, Memo memo, Row told) {
            this.street = street;
            this.hearing = hearing;
            this.memo = memo;
            this.told = told;
        }

        void follow(int from) {
            memo.begin(street.people);
            int at = from;
            int day = 0;
            while (day <= street.everybody() && memo.recall(0, at) == NONE) {
                memo.note(0, at, day++);
                at = hearing.after(at);
            }
            till = memo.recall(0, at);
            period = day - till;
            entry = at;
            goRound();
        }

        private void goRound() {
            least = entry;
            always = entry;
            ever = entry;
            int at = entry;
            for (int day = 1; day < period; day++) {
                at = hearing.after(at);
                least = Math.min(least, at);
                always &= at;
                ever |= at;
            }
        }

        private boolean isFirmAs(int state, int other) {
            return ((state ^ other) & street.firm) == 0;
        }

        private int answer(int many, int lowest) {
            told.clear();
            if (many > 0) {
                told.add(lowest);
            }
            return many;
        }

        int leadHere(int n) {
            int now = street.now();
            int many = 0;
            int lowest = 0;
            for (int s = street.everybody(); s >= 0; s--) {
                if (isFirmAs(s, now) && hearing.later(s, n) == now) {
                    many++;
                    lowest = s;
                }
            }
            return answer(many, lowest);
        }

        int meetWith(int state) {
            int then = hearing.after(state);
            int many = 0;
            int nearest = 0;
            int apart = MOST_PEOPLE + 1;
            for (int s = 0; s <= street.everybody(); s++) {
                if (s != state && isFirmAs(s, state) && hearing.after(s) == then) {
                    many++;
                    int differing = Integer.bitCount(s ^ state);
                    nearest = differing < apart ? s : nearest;
                    apart = Math.min(apart, differing);
                }
            }
            answer(many, nearest);
            if (many > 0) {
                told.add(apart);
            }
            return many;
        }

        int withoutPast() {
            int now = street.now();
            memo.begin(street.people);
            for (int s = 0; s <= street.everybody(); s++) {
                if (isFirmAs(s, now)) {
                    memo.note(0, hearing.after(s), 1);
                }
            }
            int many = 0;
            int lowest = 0;
            for (int s = street.everybody(); s >= 0; s--) {
                if (isFirmAs(s, now) && memo.recall(0, s) == NONE) {
                    many++;
                    lowest = s;
                }
            }
            return answer(many, lowest);
        }

        // Each STATE is gone through once: a walk that ends in its own marks has found a new round.
        int comeAgain() {
            int now = street.now();
            int many = 0;
            int rests = 0;
            int longest = 0;
            memo.begin(street.people);
            for (int s = 0; s <= street.everybody(); s++) {
                if (isFirmAs(s, now) && memo.recall(0, s) == NONE) {
                    int end = walkMarking(s, s, NONE);
                    int round = memo.recall(0, end) == s ? roundOf(end) : 0;
                    many += round;
                    rests += round == 1 ? 1 : 0;
                    longest = Math.max(longest, round);
                }
            }
            told.only(rests);
            told.add(longest);
            return many;
        }

        private int walkMarking(int from, int mark, int over) {
            int at = from;
            for (int step = 0; step <= street.everybody() && memo.recall(0, at) == over; step++) {
                memo.note(0, at, mark);
                at = hearing.after(at);
            }
            return at;
        }

        private int roundOf(int state) {
            int at = hearing.after(state);
            int days = 1;
            while (days <= street.everybody() && at != state) {
                at = hearing.after(at);
                days++;
            }
            return days;
        }

        // The second walk leaves the answer with all STATES of the first, so that none is asked twice.
        int leadTo(int goal) {
            final int yes = 1;
            final int no = 2;
            final int asked = 3;
            int now = street.now();
            int many = 0;
            memo.begin(street.people);
            memo.note(0, goal, yes);
            for (int s = 0; s <= street.everybody(); s++) {
                if (isFirmAs(s, now)) {
                    int end = walkMarking(s, asked, NONE);
                    walkMarking(s, memo.recall(0, end) == yes ? yes : no, asked);
                    many += memo.recall(0, s) == yes ? 1 : 0;
                }
            }
            return many;
        }
    }

    /** Whom to talk round, at once or one a DAY. */
    private static final class Talking {
        private static final int FAR = 1000;
        private static final int COUNTS = 16;

        private final Street street;
        private final Hearing hearing;
        private final Memo memo;
        private final Row told;
        private int wanted;
        private int sum;
        private int soonest;

        Talking(Street street, Hearing hearing, Memo memo, Row told) {
            this.street = street;
            this.hearing = hearing;
            this.memo = memo;
            this.told = told;
        }

        int atOnce(int people, int n, boolean priced) {
            int open = street.openToTalk();
            int whom = NONE;
            int least = FAR * COUNTS;
            for (int set = 0; set <= street.everybody(); set++) {
                if ((set & ~open) == 0) {
                    int costs = Integer.bitCount(set) + (priced ? street.priceOf(set) * COUNTS : 0);
                    if (costs < least && hearing.dayOf(street.now() | set, people, n) != NONE) {
                        least = costs;
                        whom = set;
                    }
                }
            }
            if (whom == NONE) {
                return NEVER;
            }
            told.only(whom);
            return priced ? least / COUNTS : least;
        }

        int dayByDay(int people, int n) {
            if (!seek(people, n)) {
                return NEVER;
            }
            told.only(soonest);
            told.add(soonest == 0 ? NONE : whomFirst(street.now(), soonest, sum));
            return sum;
        }

        int wholePlan(int people, int n) {
            if (!seek(people, n)) {
                return NEVER;
            }
            told.clear();
            int state = street.now();
            int left = sum;
            for (int days = soonest; days > 0; days--) {
                int who = whomFirst(state, days, left);
                told.add(who);
                if (who != NONE) {
                    left -= street.price[who];
                    state |= 1 << who;
                }
                state = hearing.after(state);
            }
            return soonest;
        }

        private boolean seek(int people, int n) {
            wanted = people;
            memo.begin(street.people);
            sum = FAR;
            for (int days = 0; days <= n; days++) {
                int needed = leastSum(street.now(), days);
                if (needed < sum) {
                    sum = needed;
                    soonest = days;
                }
            }
            return sum < FAR;
        }

        private int leastSum(int state, int days) {
            if (days <= 0) {
                return (state & wanted) == wanted ? 0 : FAR;
            }
            int known = memo.recall(days, state);
            if (known != NONE) {
                return known;
            }
            int least = leastSum(hearing.after(state), days - 1);
            int open = street.everybody() & ~street.firm & ~state;
            for (int i = 0; i < street.people; i++) {
                if ((open >> i & 1) != 0) {
                    least = Math.min(least, leastSumWith(i, state, days));
                }
            }
            memo.note(days, state, least);
            return least;
        }

        private int leastSumWith(int i, int state, int days) {
            return street.price[i] + leastSum(hearing.after(state | 1 << i), days - 1);
        }

        private int whomFirst(int state, int days, int most) {
            if (leastSum(hearing.after(state), days - 1) == most) {
                return NONE;
            }
            int open = street.everybody() & ~street.firm & ~state;
            for (int i = 0; i < street.people; i++) {
                if ((open >> i & 1) != 0 && leastSumWith(i, state, days) == most) {
                    return i;
                }
            }
            return NONE;
        }

        // All who could be are talked round on DAY 0 but those made FIRM: so on that DAY told ones all BELIEVE, unless
        // one of them is FIRM and does not, or is made so. Thus one is enough, and nobody does if all BELIEVE now.
        int keepFrom(int people) {
            int doubting = people & ~street.now();
            if (doubting == 0) {
                return NEVER;
            }
            if ((doubting & street.firm) != 0) {
                told.only(0);
                return 0;
            }
            told.only(Integer.lowestOneBit(doubting));
            return 1;
        }

        // It is enough to look at the DAY on which all others BELIEVE who can: more who do never make fewer behind it.
        private int lost(int set) {
            int others = street.everybody() & ~street.firm & ~set;
            return set & hearing.after(others | street.now() & street.firm);
        }

        int greatestHolding() {
            int set = street.openToTalk();
            for (int step = 0; step <= MOST_PEOPLE; step++) {
                set &= ~lost(set);
            }
            return set;
        }

        int smallestHolding(int left, int with) {
            int best = 0;
            int fewest = MOST_PEOPLE + 1;
            for (int set = 1; set <= left; set++) {
                int many = Integer.bitCount(set);
                if (many < fewest && (set & ~left) == 0 && (with & ~set) == 0 && lost(set) == 0) {
                    best = set;
                    fewest = many;
                }
            }
            return best;
        }

        int holdApart() {
            told.clear();
            int left = greatestHolding();
            int many = 0;
            while (many < MOST_PEOPLE && left != 0) {
                int set = smallestHolding(left, 0);
                if (set == 0) {
                    return many;
                }
                told.add(set);
                left &= ~set;
                many++;
            }
            return many;
        }
    }

    /** A RULE, as numbers, letters and operators in the order in which they are reckoned. */
    private static final class Rule {
        private static final String LETTERS = "inpasod";
        private static final int SIDE = 4;
        private static final int LETTER = 1000;
        private static final int OPERATOR = 2000;
        private static final char OPPOSITE = '~';

        private final int[] codes = new int[RULE_SIGNS];
        private final int[] stack = new int[RULE_SIGNS];
        private int size;
        private int top;

        boolean isTold() {
            return size > 0;
        }

        void clear() {
            size = 0;
        }

        void add(int code) {
            if (size < RULE_SIGNS) {
                codes[size++] = code;
            }
        }

        int value(int[] facts) {
            top = 0;
            for (int k = 0; k < size; k++) {
                int code = codes[k];
                if (code >= OPERATOR) {
                    int second = pop();
                    push(code == OPERATOR + OPPOSITE ? -second : reckon(code - OPERATOR, pop(), second));
                } else {
                    push(code >= LETTER ? facts[code - LETTER] : code);
                }
            }
            return pop();
        }

        private void push(int v) {
            if (top < RULE_SIGNS) {
                stack[top++] = v;
            }
        }

        private int pop() {
            return top > 0 ? stack[--top] : 0;
        }

        private static int reckon(int sign, int one, int other) {
            switch (sign) {
                case '+': return one + other;
                case '-': return one - other;
                case '*': return one * other;
                case '/': return other == 0 ? 0 : one / other;
                case '<': return one < other ? 1 : 0;
                case '>': return one > other ? 1 : 0;
                default: return one == other ? 1 : 0;
            }
        }
    }

    /** Reads a RULE; where it can't go on, it stands at the sign that can't stand there. */
    private static final class RuleReader {
        private static final int MOST_NESTED = 4;
        private static final int MOST_DIGITS = 3;

        private final Rule[] rules;
        private Rule spare = new Rule();
        private int[] text;
        private int limit;
        private int at;

        RuleReader(Rule[] rules) {
            this.rules = rules;
            this.text = new int[0];
        }

        int read(int[] signs, int length, int shop) {
            text = signs;
            limit = Math.min(length, RULE_SIGNS);
            at = 0;
            spare.clear();
            if (length > 0 && (!readExpression(0) || at < limit)) {
                return -1 - at;
            }
            if (length > limit) {
                return -1 - limit;
            }
            Rule old = rules[shop];
            rules[shop] = spare;
            spare = old;
            return 0;
        }

        private boolean readExpression(int depth) {
            if (!readSum(depth)) {
                return false;
            }
            if (!isOneOf("<>=")) {
                return true;
            }
            int sign = text[at++];
            if (!readSum(depth)) {
                return false;
            }
            spare.add(Rule.OPERATOR + sign);
            return true;
        }

        private boolean readSum(int depth) {
            if (!readProduct(depth)) {
                return false;
            }
            while (at < limit && isOneOf("+-")) {
                int sign = text[at++];
                if (!readProduct(depth)) {
                    return false;
                }
                spare.add(Rule.OPERATOR + sign);
            }
            return true;
        }

        private boolean readProduct(int depth) {
            if (!readSigned(depth)) {
                return false;
            }
            while (at < limit && isOneOf("*/")) {
                int sign = text[at++];
                if (!readSigned(depth)) {
                    return false;
                }
                spare.add(Rule.OPERATOR + sign);
            }
            return true;
        }

        private boolean readSigned(int depth) {
            boolean opposite = false;
            while (at < limit && isOneOf("-")) {
                at++;
                opposite = !opposite;
            }
            if (!readThing(depth)) {
                return false;
            }
            if (opposite) {
                spare.add(Rule.OPERATOR + Rule.OPPOSITE);
            }
            return true;
        }

        private boolean readThing(int depth) {
            if (isOneOf(Rule.LETTERS)) {
                spare.add(Rule.LETTER + Rule.LETTERS.indexOf((char) text[at++]));
                return true;
            }
            if (isOneOf("0123456789")) {
                spare.add(number());
                return true;
            }
            if (!isOneOf("(") || depth >= MOST_NESTED) {
                return false;
            }
            at++;
            if (!readExpression(depth + 1) || !isOneOf(")")) {
                return false;
            }
            at++;
            return true;
        }

        private int number() {
            int number = 0;
            for (int digits = 0; digits < MOST_DIGITS && at < limit && text[at] >= '0' && text[at] <= '9'; digits++) {
                number = number * 10 + text[at++] - '0';
            }
            return number;
        }

        private boolean isOneOf(String signs) {
            return at < limit && signs.indexOf((char) text[at]) >= 0;
        }
    }

    /** Two SHOPS that win over one each in turn. */
    private static final class Shops {
        private final Street street;
        private final Hearing hearing;
        private final Memo memo;
        private final Rule[] rules;
        private final Row told;
        private final int[][] facts = new int[MOST_PEOPLE][7];
        private final int[] paid = new int[SHOPS];

        Shops(Street street, Hearing hearing, Memo memo, Rule[] rules, Row told) {
            this.street = street;
            this.hearing = hearing;
            this.memo = memo;
            this.rules = rules;
            this.told = told;
        }

        // Of what RULES ask for, only how loud the SHOP's side is heard is another number in each STATE.
        void learn() {
            for (int i = 0; i < street.people; i++) {
                facts[i][0] = i;
                facts[i][1] = street.need[i];
                facts[i][2] = street.price[i];
                facts[i][3] = street.allOf(i);
                facts[i][5] = street.loudnessOf(i);
                facts[i][6] = Integer.bitCount(street.hearersOfAny(1 << i));
            }
        }

        int rate(int shop, int i, int state) {
            facts[i][Rule.SIDE] = street.sumHeard(i, shop == 1 ? state : ~state);
            return rules[shop].value(facts[i]);
        }

        private int open(int shop, int state) {
            return (shop == 1 ? ~state : state) & street.everybody() & ~street.firm;
        }

        int pick(int shop, int state) {
            int open = open(shop, state);
            int best = NEVER;
            int most = 0;
            for (int i = 0; i < street.people; i++) {
                if ((open >> i & 1) != 0) {
                    int rate = rate(shop, i, state);
                    if (best == NEVER || rate > most) {
                        best = i;
                        most = rate;
                    }
                }
            }
            return best;
        }

        int trade(int n) {
            learn();
            Arrays.fill(paid, 0);
            int state = street.now();
            for (int day = 0; day < n; day++) {
                state = hearing.after(serve(0, serve(1, state)));
            }
            told.only(state);
            told.add(paid[0]);
            told.add(paid[1]);
            return Integer.bitCount(state);
        }

        private int serve(int shop, int state) {
            int who = pick(shop, state);
            if (who < 0) {
                return state;
            }
            paid[shop] += street.price[who];
            return state ^ 1 << who;
        }

        int playBoth(int n) {
            memo.begin(street.people);
            int now = street.now();
            int value = bestForOne(now, n);
            int first = NONE;
            if (n > 0 && bestForZero(now, n) != value) {
                int open = open(1, now);
                for (int i = street.people - 1; i >= 0; i--) {
                    first = (open >> i & 1) != 0 && bestForZero(now | 1 << i, n) == value ? i : first;
                }
            }
            told.only(first);
            return value;
        }

        private int bestForOne(int state, int days) {
            if (days <= 0) {
                return Integer.bitCount(state);
            }
            int known = memo.recall(days, state);
            if (known != NONE) {
                return known;
            }
            int best = bestForZero(state, days);
            int open = open(1, state);
            for (int i = 0; i < street.people; i++) {
                if ((open >> i & 1) != 0) {
                    best = Math.max(best, bestForZero(state | 1 << i, days));
                }
            }
            memo.note(days, state, best);
            return best;
        }

        private int bestForZero(int state, int days) {
            int level = FARTHEST_GAME + days;
            int known = memo.recall(level, state);
            if (known != NONE) {
                return known;
            }
            int best = bestForOne(hearing.after(state), days - 1);
            int open = open(0, state);
            for (int i = 0; i < street.people; i++) {
                if ((open >> i & 1) != 0) {
                    best = Math.min(best, bestForOne(hearing.after(state ^ 1 << i), days - 1));
                }
            }
            memo.note(level, state, best);
            return best;
        }

        int playRule(int n) {
            learn();
            memo.begin(street.people);
            int now = street.now();
            int value = bestAgainstRule(now, n);
            int first = NONE;
            if (n > 0 && bestAgainstRule(behindReply(now), n - 1) != value) {
                int open = open(1, now);
                for (int i = street.people - 1; i >= 0; i--) {
                    boolean does = (open >> i & 1) != 0 && bestAgainstRule(behindReply(now | 1 << i), n - 1) == value;
                    first = does ? i : first;
                }
            }
            told.only(first);
            return value;
        }

        private int bestAgainstRule(int state, int days) {
            if (days <= 0) {
                return Integer.bitCount(state);
            }
            int known = memo.recall(days, state);
            if (known != NONE) {
                return known;
            }
            int best = bestAgainstRule(behindReply(state), days - 1);
            int open = open(1, state);
            for (int i = 0; i < street.people; i++) {
                if ((open >> i & 1) != 0) {
                    best = Math.max(best, bestAgainstRule(behindReply(state | 1 << i), days - 1));
                }
            }
            memo.note(days, state, best);
            return best;
        }

        private int behindReply(int state) {
            int known = memo.recall(0, state);
            if (known != NONE) {
                return known;
            }
            int who = pick(0, state);
            int then = hearing.after(who < 0 ? state : state ^ 1 << who);
            memo.note(0, state, then);
            return then;
        }
    }

    /** What if all had another NEED, or some other acquaintances. */
    private static final class Acquaintances {
        private final Street street;
        private final Row told;
        // One of its own: what is tried out here must not stay with the street's.
        private final Hearing trial;

        Acquaintances(Street street, Row told) {
            this.street = street;
            this.told = told;
            this.trial = new Hearing(street);
        }

        // Each DAY is gone through anew: what a Hearing keeps by STATE is of the street as it is.
        private int dayOfAll(int n) {
            int at = street.now();
            for (int day = 0; day <= n; day++) {
                if (at == street.everybody()) {
                    return day;
                }
                int then = trial.next(at);
                if (then == at) {
                    return NONE;
                }
                at = then;
            }
            return NONE;
        }

        // With a lower NEED no fewer BELIEVE on any DAY: so the greatest one can be found by halves.
        int highestNeed(int n) {
            trial.learn();
            int need = NONE;
            int day = NONE;
            for (int step = 64; step > 0; step /= 2) {
                if (need + step <= MOST_NEED) {
                    trial.needAll(need + step);
                    int reached = dayOfAll(n);
                    day = reached != NONE ? reached : day;
                    need = reached != NONE ? need + step : need;
                }
            }
            if (need == NONE) {
                return NEVER;
            }
            told.only(day);
            return need;
        }

        int fewestPairs(int n) {
            trial.learn();
            if (dayOfAll(n) != NONE) {
                told.clear();
                return 0;
            }
            int pairs = street.people * street.people;
            int one = nextPair(0, n);
            if (one < pairs) {
                told.clear();
                tellPair(one);
                return 1;
            }
            for (int first = 0; first < pairs; first++) {
                if (isInOrder(first)) {
                    turn(first, 1);
                    int second = nextPair(first + 1, n);
                    turn(first, -1);
                    if (second < pairs) {
                        told.clear();
                        tellPair(first);
                        tellPair(second);
                        return 2;
                    }
                }
            }
            return NEVER;
        }

        private int nextPair(int from, int n) {
            int pairs = street.people * street.people;
            for (int pair = from; pair < pairs; pair++) {
                if (isInOrder(pair) && doesIt(pair, n)) {
                    return pair;
                }
            }
            return pairs;
        }

        private boolean doesIt(int pair, int n) {
            turn(pair, 1);
            boolean does = dayOfAll(n) != NONE;
            turn(pair, -1);
            return does;
        }

        int pairsAlone(int n) {
            trial.learn();
            int many = 0;
            int made = 0;
            for (int a = 0; a < street.people; a++) {
                for (int b = a + 1; b < street.people; b++) {
                    if (doesIt(a * street.people + b, n)) {
                        many++;
                        made += street.isPair(a, b) ? 0 : 1;
                    }
                }
            }
            told.only(made);
            return many;
        }

        // A pair a, b is told as the number a * people + b, so that the order of numbers is that of rows.

        private int one(int pair) {
            return street.people > 0 ? pair / street.people : 0;
        }

        private int other(int pair) {
            return street.people > 0 ? pair % street.people : 0;
        }

        private boolean isInOrder(int pair) {
            return one(pair) < other(pair);
        }

        private void turn(int pair, int times) {
            trial.turnPair(one(pair), other(pair), times);
        }

        private void tellPair(int pair) {
            told.add(one(pair));
            told.add(other(pair));
        }
    }
}

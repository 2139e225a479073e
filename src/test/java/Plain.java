import java.util.ArrayList;
import java.util.HashMap;
import java.util.HashSet;
import java.util.List;
import java.util.Map;
import java.util.NoSuchElementException;
import java.util.Set;

/**
 * The document once more, as slow and as literal as can be, for small streets: what MoreThanHalf answers is compared
 * with it. It shares no code and, where there is a choice, no way of working with the class that it checks.
 */
final class Plain {
    static final int NONE = -1;

    private static final class Person {
        int need;
        int price;
        boolean firm;
    }

    private static final class Saved {
        int people;
        List<Integer> days;
        int[][] loud;
        int[] needs;
    }

    private String text = "";
    private List<Person> people = new ArrayList<>();
    private int[][] loud = new int[14][14];
    private List<Integer> days = new ArrayList<>(List.of(0));
    private List<Long> row = new ArrayList<>();
    private final String[] rules = { "", "" };
    private final Saved[] saved = new Saved[2];

    // ---- helpers

    private int n() {
        return people.size();
    }

    private int now() {
        return days.get(days.size() - 1);
    }

    private int full() {
        return (1 << n()) - 1;
    }

    private static boolean in(int bits, int i) {
        return (bits >> i) % 2 == 1;
    }

    private boolean there(int i) {
        return i >= 0 && i < n();
    }

    private boolean bitsThere(int bits) {
        return bits >= 0 && bits < 1 << n();
    }

    private int firmBits() {
        int bits = 0;
        for (int i = 0; i < n(); i++) {
            if (people.get(i).firm) {
                bits += 1 << i;
            }
        }
        return bits;
    }

    private int all(int i) {
        int sum = 0;
        for (int j = 0; j < n(); j++) {
            sum += loud[i][j];
        }
        return sum;
    }

    private int step(int state) {
        int[] needs = new int[n()];
        for (int i = 0; i < n(); i++) {
            needs[i] = people.get(i).need;
        }
        return step(state, needs, loud);
    }

    private int step(int state, int[] needs, int[][] how) {
        int then = 0;
        for (int i = 0; i < n(); i++) {
            int all = 0;
            int sum = 0;
            for (int j = 0; j < n(); j++) {
                all += how[i][j];
                sum += in(state, j) ? how[i][j] : 0;
            }
            boolean believes = in(state, i);
            if (!people.get(i).firm && all > 0) {
                believes = 100 * sum > needs[i] * all;
            }
            then += believes ? 1 << i : 0;
        }
        return then;
    }

    private void tell(long... numbers) {
        row = new ArrayList<>();
        for (long number : numbers) {
            row.add(number);
        }
    }

    // ---- the street

    int sign(int v) {
        if (text.length() > 76) {
            return NONE;
        }
        text += (char) (v >>> 24) + "" + (char) (v >>> 16 & 255) + (char) (v >>> 8 & 255) + (char) (v & 255);
        return text.length();
    }

    boolean end(int n) {
        if (n < 0 || n > text.length()) {
            return false;
        }
        text = text.substring(0, n);
        return true;
    }

    int street() {
        String read = text;
        text = "";
        if (read.isEmpty()) {
            return 0;
        }
        int bad = firstBad(read.length() > 76 ? read.substring(0, 76) : read);
        if (bad >= 0 && (bad < 76 || read.length() <= 76)) {
            return -1 - bad;
        }
        if (read.length() > 76) {
            return -1 - 76;
        }
        String[] lines = read.split(";", -1);
        for (String line : lines) {
            tellLine(line);
        }
        return lines.length;
    }

    private void tellLine(String line) {
        if (line.charAt(0) == 'b' || line.charAt(0) == 'n') {
            Person person = new Person();
            int comma = line.indexOf(',');
            person.need = Integer.parseInt(line.substring(1, comma));
            person.price = line.charAt(comma + 1) - '0';
            person.firm = line.endsWith("!");
            int state = now() + (line.charAt(0) == 'b' ? 1 << n() : 0);
            people.add(person);
            days = new ArrayList<>(List.of(state));
            return;
        }
        int mid = Math.max(line.indexOf('-'), line.indexOf('>'));
        int star = line.indexOf('*');
        int one = Integer.parseInt(line.substring(0, mid));
        int other = Integer.parseInt(line.substring(mid + 1, star));
        int v = line.charAt(star + 1) - '0';
        loud[other][one] = v;
        if (line.charAt(mid) == '-') {
            loud[one][other] = v;
        }
    }

    /** Sign by sign through the kinds of places of a line: the first bad place, its length if it ends too early, -1: none. */
    private int firstBad(String read) {
        int there = n();
        String place = "start";
        String number = "";
        int firstOne = -1;
        for (int p = 0; p <= read.length(); p++) {
            char c = p < read.length() ? read.charAt(p) : '$';
            boolean digit = c >= '0' && c <= '9';
            if ((place.equals("one") || place.equals("other")) && (!digit || number.length() == 2)) {
                int who = Integer.parseInt(number);
                if (who >= there || place.equals("other") && who == firstOne) {
                    return p - 1;
                }
            }
            switch (place) {
                case "start":
                    if (c == 'b' || c == 'n') {
                        if (there == 14) {
                            return p;
                        }
                        there++;
                        place = "need0";
                    } else if (digit) {
                        number = "" + c;
                        place = "one";
                    } else {
                        return p;
                    }
                    break;
                case "need0":
                    if (!digit) {
                        return p;
                    }
                    place = "need1";
                    break;
                case "need1":
                    if (digit) {
                        place = "comma";
                    } else if (c == ',') {
                        place = "price";
                    } else {
                        return p;
                    }
                    break;
                case "comma":
                    if (c != ',') {
                        return p;
                    }
                    place = "price";
                    break;
                case "price":
                    if (!digit) {
                        return p;
                    }
                    place = "perhapsFirm";
                    break;
                case "perhapsFirm":
                case "lineEnd":
                    if (c == '!' && place.equals("perhapsFirm")) {
                        place = "lineEnd";
                    } else if (c == ';') {
                        place = "start";
                    } else if (c != '$' || p < read.length()) {
                        return p;
                    } else {
                        return -1;
                    }
                    break;
                case "one":
                    if (digit && number.length() == 1) {
                        number += c;
                    } else if (c == '-' || c == '>') {
                        firstOne = Integer.parseInt(number);
                        number = "";
                        place = "other0";
                    } else {
                        return p;
                    }
                    break;
                case "other0":
                    if (!digit) {
                        return p;
                    }
                    number = "" + c;
                    place = "other";
                    break;
                case "other":
                    if (digit && number.length() == 1) {
                        number += c;
                    } else if (c == '*') {
                        place = "loud";
                    } else {
                        return p;
                    }
                    break;
                default:
                    if (!digit) {
                        return p;
                    }
                    place = "lineEnd";
                    break;
            }
        }
        return -1;
    }

    int person(int i, int what) {
        if (!there(i) || what < 0 || what > 5) {
            throw new NoSuchElementException();
        }
        Person one = people.get(i);
        int echo = 0;
        for (int j = 0; j < n(); j++) {
            echo += loud[j][i];
        }
        return List.of(in(now(), i) ? 1 : 0, one.need, one.price, one.firm ? 1 : 0, all(i), echo).get(what);
    }

    int set(int i, int what, int v) {
        if (!there(i) || v < 0 || what < 0 || what > 1 || what == 0 && v > 99 || what == 1 && v > 9) {
            return NONE;
        }
        Person one = people.get(i);
        int was = what == 0 ? one.need : one.price;
        if (what == 0) {
            one.need = v;
        } else {
            one.price = v;
        }
        return was;
    }

    int hears(int one, int other) {
        return there(one) && there(other) && one != other ? loud[one][other] : NONE;
    }

    int sheet(int kind, int n, int f, int step) {
        if (kind < 0 || kind > 3 || n > 14) {
            return NONE;
        }
        if (kind == 3) {
            for (Person one : people) {
                one.need = 50;
            }
            return -3;
        }
        if (n < 0) {
            return -2;
        }
        int sum = 0;
        int entry = f;
        for (int i = 0; i < n(); i++) {
            int read = entry;
            if (kind == 0) {
                read = entry & 255;
                read = read > 127 ? read - 256 : read;
            } else if (kind == 1) {
                read = entry & 65535;
                read = read > 32767 ? read - 65536 : read;
            }
            read = read < 0 ? 0 : read > 99 ? 99 : read;
            people.get(i).need = i < n ? read : 50;
            sum += people.get(i).need;
            entry += step;
        }
        return sum;
    }

    int alike() {
        for (int i = 0; i < n(); i++) {
            for (int j = 0; j < n(); j++) {
                if (loud[i][j] != loud[j][i]) {
                    return 0;
                }
            }
        }
        return 1;
    }

    // ---- days

    int state(int day) {
        return day >= 0 && day < days.size() ? days.get(day) : NONE;
    }

    int go(int n) {
        if (n < 0 || n > 200) {
            return NONE;
        }
        for (int k = 0; k < n; k++) {
            if (days.size() < 201) {
                days.add(step(now()));
            }
        }
        return now();
    }

    int talk(int bits) {
        if (!bitsThere(bits)) {
            return NONE;
        }
        int sum = 0;
        for (int i = 0; i < n(); i++) {
            if (in(bits, i)) {
                if (people.get(i).firm || in(now(), i)) {
                    return NONE;
                }
                sum += people.get(i).price;
            }
        }
        days.set(days.size() - 1, now() + bits);
        return sum;
    }

    int behind(int state) {
        return bitsThere(state) ? step(state) : NONE;
    }

    private List<Integer> path(int from) {
        List<Integer> path = new ArrayList<>();
        int s = from;
        while (!path.contains(s)) {
            path.add(s);
            s = step(s);
        }
        path.add(s);
        return path;
    }

    private List<Integer> round(int from) {
        List<Integer> path = path(from);
        int again = path.get(path.size() - 1);
        return path.subList(path.indexOf(again), path.size() - 1);
    }

    int rest() {
        List<Integer> round = round(now());
        int least = round.get(0);
        for (int s : round) {
            least = Math.min(least, s);
        }
        tell(round.size(), round.get(0), least);
        return path(now()).indexOf(round.get(0));
    }

    long fall(int day) {
        if (day < 1 || day >= days.size()) {
            return NONE;
        }
        int on = days.get(day);
        int ahead = days.get(day - 1);
        long sum = 0;
        for (int i = 0; i < n(); i++) {
            if (!people.get(i).firm && all(i) > 0) {
                long one = 2 * people.get(i).need * all(i) + 1;
                sum += in(on, i) ? one : 0;
                sum += in(ahead, i) ? one : 0;
            }
            for (int j = 0; j < n(); j++) {
                sum -= in(on, i) && in(ahead, j) ? 200 * loud[i][j] : 0;
            }
        }
        return sum;
    }

    long falls() {
        long notLess = NONE;
        long more = NONE;
        for (int day = 2; day < days.size(); day++) {
            if (notLess == NONE && fall(day) >= fall(day - 1)) {
                notLess = day;
            }
            if (more == NONE && fall(day) > fall(day - 1)) {
                more = day;
            }
        }
        tell(notLess, more);
        return days.size() < 3 ? 0 : fall(1) - fall(days.size() - 1);
    }

    int swings() {
        List<Integer> round = round(now());
        int swing = 0;
        int always = 0;
        for (int i = 0; i < n(); i++) {
            int times = 0;
            for (int s : round) {
                times += in(s, i) ? 1 : 0;
            }
            always += times == round.size() ? 1 << i : 0;
            swing += times > 0 && times < round.size() ? 1 << i : 0;
        }
        tell(always);
        return swing;
    }

    int otherwise(int i, int n) {
        if (!there(i) || people.get(i).firm || n < 0 || n > 200) {
            return NONE;
        }
        int one = now();
        int other = now() ^ 1 << i;
        for (int day = 0; day < n; day++) {
            one = step(one);
            other = step(other);
        }
        return one ^ other;
    }

    int onebyone() {
        int s = now();
        int changes = 0;
        int rounds = 0;
        while (true) {
            int before = s;
            int was = changes;
            for (int i = 0; i < n(); i++) {
                boolean then = in(step(s), i);
                if (then != in(s, i)) {
                    s ^= 1 << i;
                    changes++;
                }
            }
            if (was == changes) {
                if (before != s) {
                    throw new IllegalStateException();
                }
                tell(s, changes);
                return rounds;
            }
            rounds++;
            if (rounds > 100) {
                return -2;
            }
        }
    }

    int level(int n) {
        if (n < 0 || n > 20) {
            return NONE;
        }
        for (int need = 99; need >= 0; need--) {
            int[] needs = new int[n()];
            java.util.Arrays.fill(needs, need);
            int s = now();
            for (int day = 0; day <= n; day++) {
                if (s == full()) {
                    tell(day);
                    return need;
                }
                s = step(s, needs, loud);
            }
        }
        return -2;
    }

    int hops(int from, int to) {
        if (!there(from) || !there(to)) {
            return NONE;
        }
        List<List<Integer>> paths = new ArrayList<>();
        walks(from, to, new ArrayList<>(List.of(from)), paths);
        List<Integer> best = null;
        for (List<Integer> path : paths) {
            if (best == null || path.size() < best.size()) {
                best = path;
            }
        }
        if (best == null) {
            return -2;
        }
        row = new ArrayList<>();
        for (int k = 1; k < best.size() - 1; k++) {
            row.add((long) best.get(k));
        }
        return best.size() - 1;
    }

    /** All ways without one twice, the least row first. */
    private void walks(int at, int to, List<Integer> way, List<List<Integer>> paths) {
        if (at == to) {
            paths.add(new ArrayList<>(way));
            return;
        }
        for (int i = 0; i < n(); i++) {
            if (loud[i][at] > 0 && !way.contains(i)) {
                way.add(i);
                walks(i, to, way, paths);
                way.remove(way.size() - 1);
            }
        }
    }

    int part(int i) {
        if (!there(i)) {
            return NONE;
        }
        int[] name = new int[n()];
        for (int j = 0; j < n(); j++) {
            name[j] = j;
        }
        for (int a = 0; a < n(); a++) {
            for (int b = 0; b < n(); b++) {
                if (loud[a][b] > 0) {
                    int old = name[a];
                    for (int c = 0; c < n(); c++) {
                        name[c] = name[c] == old ? name[b] : name[c];
                    }
                }
            }
        }
        Set<Integer> names = new HashSet<>();
        int bits = 0;
        for (int j = 0; j < n(); j++) {
            names.add(name[j]);
            bits += name[j] == name[i] ? 1 << j : 0;
        }
        tell(names.size());
        return bits;
    }

    // ---- days ahead

    private List<Integer> statesAs(int state) {
        List<Integer> states = new ArrayList<>();
        for (int s = 0; s <= full(); s++) {
            if ((s & firmBits()) == (state & firmBits())) {
                states.add(s);
            }
        }
        return states;
    }

    int ahead(int n) {
        if (n < 1 || n > 3) {
            return NONE;
        }
        List<Integer> found = new ArrayList<>();
        for (int s : statesAs(now())) {
            int then = s;
            for (int day = 0; day < n; day++) {
                then = step(then);
            }
            if (then == now()) {
                found.add(s);
            }
        }
        tellFirst(found);
        return found.size();
    }

    private void tellFirst(List<Integer> found) {
        row = new ArrayList<>();
        if (!found.isEmpty()) {
            row.add((long) found.get(0));
        }
    }

    int twins(int state) {
        if (!bitsThere(state)) {
            return NONE;
        }
        int many = 0;
        row = new ArrayList<>();
        for (int s : statesAs(state)) {
            if (s != state && step(s) == step(state)) {
                many++;
                int apart = Integer.bitCount(s ^ state);
                if (row.isEmpty() || apart < row.get(1)) {
                    tell(s, apart);
                }
            }
        }
        return many;
    }

    int first() {
        List<Integer> found = statesAs(now());
        for (int s : statesAs(now())) {
            found.remove((Integer) step(s));
        }
        tellFirst(found);
        return found.size();
    }

    int last() {
        int many = 0;
        int rests = 0;
        int longest = 0;
        for (int s : statesAs(now())) {
            List<Integer> round = round(s);
            if (round.contains(s)) {
                many++;
                rests += round.size() == 1 ? 1 : 0;
                longest = Math.max(longest, round.size());
            }
        }
        tell(rests, longest);
        return many;
    }

    int fates() {
        int all = 0;
        int nobody = 0;
        for (int s : statesAs(now())) {
            all += path(s).contains(full()) ? 1 : 0;
            nobody += path(s).contains(0) ? 1 : 0;
        }
        tell(nobody);
        return all;
    }

    // ---- talking round

    private boolean does(int state, int wanted, int n) {
        int s = state;
        for (int day = 0; day <= n; day++) {
            if ((s & wanted) == wanted) {
                return true;
            }
            s = step(s);
        }
        return false;
    }

    private int open() {
        return full() & ~firmBits() & ~now();
    }

    private int prices(int bits) {
        int sum = 0;
        for (int i = 0; i < n(); i++) {
            sum += in(bits, i) ? people.get(i).price : 0;
        }
        return sum;
    }

    int fewest(int bits, int n) {
        if (!bitsThere(bits) || n < 0 || n > 20) {
            return NONE;
        }
        for (int many = 0; many <= n(); many++) {
            for (int set = 0; set <= full(); set++) {
                if (Integer.bitCount(set) == many && (set & ~open()) == 0 && does(now() | set, bits, n)) {
                    tell(set);
                    return many;
                }
            }
        }
        return -2;
    }

    int cheapest(int bits, int n) {
        if (!bitsThere(bits) || n < 0 || n > 20) {
            return NONE;
        }
        for (int sum = 0; sum <= 9 * n(); sum++) {
            for (int many = 0; many <= n(); many++) {
                for (int set = 0; set <= full(); set++) {
                    if (prices(set) == sum && Integer.bitCount(set) == many && (set & ~open()) == 0
                            && does(now() | set, bits, n)) {
                        tell(set);
                        return sum;
                    }
                }
            }
        }
        return -2;
    }

    private List<Integer> bestPlan;
    private int bestSum;

    /** All plans: a shorter one first, then nobody or the first one first, so that only a lesser sum is better. */
    private void plans(int state, int left, int sum, List<Integer> plan, int wanted) {
        if (left == 0) {
            if ((state & wanted) == wanted && (bestPlan == null || sum < bestSum)) {
                bestPlan = new ArrayList<>(plan);
                bestSum = sum;
            }
            return;
        }
        for (int who = -1; who < n(); who++) {
            if (who < 0 || !people.get(who).firm && !in(state, who)) {
                plan.add(who);
                int price = who < 0 ? 0 : people.get(who).price;
                plans(step(who < 0 ? state : state + (1 << who)), left - 1, sum + price, plan, wanted);
                plan.remove(plan.size() - 1);
            }
        }
    }

    private boolean findPlan(int bits, int n) {
        bestPlan = null;
        for (int k = 0; k <= n; k++) {
            plans(now(), k, 0, new ArrayList<>(), bits);
        }
        return bestPlan != null;
    }

    int daily(int bits, int n) {
        if (!bitsThere(bits) || n < 0 || n > 6) {
            return NONE;
        }
        if (!findPlan(bits, n)) {
            return -2;
        }
        tell(bestPlan.size(), bestPlan.isEmpty() ? NONE : bestPlan.get(0));
        return bestSum;
    }

    int plan(int bits, int n) {
        if (!bitsThere(bits) || n < 0 || n > 6) {
            return NONE;
        }
        if (!findPlan(bits, n)) {
            return -2;
        }
        row = new ArrayList<>();
        for (int who : bestPlan) {
            row.add((long) who);
        }
        return bestPlan.size();
    }

    int guard(int bits) {
        if (!bitsThere(bits)) {
            return NONE;
        }
        int open = open();
        for (int many = 0; many <= n(); many++) {
            for (int set = 0; set <= full(); set++) {
                if (Integer.bitCount(set) == many && (set & ~open) == 0) {
                    makeFirm(set, true);
                    boolean believed = does(now() | open & ~set, bits, 1 << n());
                    makeFirm(set, false);
                    if (!believed) {
                        tell(set);
                        return many;
                    }
                }
            }
        }
        return -2;
    }

    private void makeFirm(int bits, boolean firm) {
        for (int i = 0; i < n(); i++) {
            if (in(bits, i)) {
                people.get(i).firm = firm;
            }
        }
    }

    private boolean holds(int set) {
        for (int s : statesAs(now())) {
            if ((s & set) == 0 && (step(s) & set) != 0) {
                return false;
            }
        }
        return (set & ~open()) == 0;
    }

    int holds() {
        int greatest = 0;
        for (int set = 0; set <= full(); set++) {
            if (holds(set) && Integer.bitCount(set) > Integer.bitCount(greatest)) {
                greatest = set;
            }
        }
        tell(greatest);
        return Integer.bitCount(greatest);
    }

    private int smallest(int left, int with) {
        for (int many = 1; many <= n(); many++) {
            for (int set = 1; set <= full(); set++) {
                if (Integer.bitCount(set) == many && (set & ~left) == 0 && (set & with) == with && holds(set)) {
                    return set;
                }
            }
        }
        return 0;
    }

    int shield(int i) {
        if (!there(i)) {
            return NONE;
        }
        int set = smallest(full(), 1 << i);
        if (set == 0) {
            return -2;
        }
        tell(set);
        return Integer.bitCount(set);
    }

    int bound() {
        row = new ArrayList<>();
        int left = full();
        for (int set = smallest(left, 0); set != 0; set = smallest(left, 0)) {
            row.add((long) set);
            left -= set;
        }
        return row.size();
    }

    // ---- two shops

    int rule(int shop) {
        String read = text;
        text = "";
        if (shop != 0 && shop != 1) {
            return -100;
        }
        if (!read.isEmpty()) {
            int bad = firstBadOfRule(read.length() > 40 ? read.substring(0, 40) : read);
            if (read.length() > 40 && bad < 0) {
                bad = 40;
            }
            if (bad >= 0) {
                return -1 - bad;
            }
        }
        rules[shop] = read;
        return 0;
    }

    /** What may stand at each place depends on four things: a thing wanted, digits so far, parentheses, comparisons in them. */
    private static int firstBadOfRule(String read) {
        boolean wanted = true;
        int digits = 0;
        List<Boolean> compared = new ArrayList<>(List.of(false));
        for (int p = 0; p < read.length(); p++) {
            char c = read.charAt(p);
            boolean digit = c >= '0' && c <= '9';
            int depth = compared.size() - 1;
            if (wanted) {
                if (digit) {
                    digits = 1;
                    wanted = false;
                } else if ("inpasod".indexOf(c) >= 0) {
                    wanted = false;
                } else if (c == '(' && depth < 4) {
                    compared.add(false);
                } else if (c != '-') {
                    return p;
                }
            } else if (digit && digits > 0 && digits < 3) {
                digits++;
            } else if ("+-*/".indexOf(c) >= 0) {
                wanted = true;
                digits = 0;
            } else if ("<>=".indexOf(c) >= 0 && !compared.get(depth)) {
                compared.set(depth, true);
                wanted = true;
                digits = 0;
            } else if (c == ')' && depth > 0) {
                compared.remove(depth);
                digits = 0;
            } else {
                return p;
            }
        }
        return wanted || compared.size() > 1 ? read.length() : -1;
    }

    /** By cutting the text at the operator that binds least, the last one of its kind. */
    private int value(String rule, int shop, int i, int state) {
        if (rule.isEmpty()) {
            return 0;
        }
        for (String signs : List.of("<>=", "+-", "*/")) {
            int depth = 0;
            for (int p = rule.length() - 1; p > 0; p--) {
                char c = rule.charAt(p);
                depth += c == ')' ? 1 : c == '(' ? -1 : 0;
                if (depth == 0 && signs.indexOf(c) >= 0 && "+-*/<>=(".indexOf(rule.charAt(p - 1)) < 0) {
                    int one = value(rule.substring(0, p), shop, i, state);
                    int other = value(rule.substring(p + 1), shop, i, state);
                    return reckon(c, one, other);
                }
            }
        }
        if (rule.charAt(0) == '-') {
            return -value(rule.substring(1), shop, i, state);
        }
        if (rule.charAt(0) == '(') {
            return value(rule.substring(1, rule.length() - 1), shop, i, state);
        }
        return thing(rule, shop, i, state);
    }

    private static int reckon(char c, int one, int other) {
        switch (c) {
            case '<': return one < other ? 1 : 0;
            case '>': return one > other ? 1 : 0;
            case '=': return one == other ? 1 : 0;
            case '+': return one + other;
            case '-': return one - other;
            case '*': return one * other;
            default: return other == 0 ? 0 : one / other;
        }
    }

    private int thing(String thing, int shop, int i, int state) {
        int side = 0;
        int echo = 0;
        int hearers = 0;
        for (int j = 0; j < n(); j++) {
            side += in(state, j) == (shop == 1) ? loud[i][j] : 0;
            echo += loud[j][i];
            hearers += loud[j][i] > 0 ? 1 : 0;
        }
        switch (thing.charAt(0)) {
            case 'i': return i;
            case 'n': return people.get(i).need;
            case 'p': return people.get(i).price;
            case 'a': return all(i);
            case 's': return side;
            case 'o': return echo;
            case 'd': return hearers;
            default: return Integer.parseInt(thing);
        }
    }

    int rates(int shop, int i) {
        if (shop < 0 || shop > 1 || !there(i)) {
            throw new NoSuchElementException();
        }
        return value(rules[shop], shop, i, now());
    }

    private int picks(int shop, int state) {
        int best = -2;
        for (int i = 0; i < n(); i++) {
            if (!people.get(i).firm && in(state, i) == (shop == 0)) {
                if (best < 0 || value(rules[shop], shop, i, state) > value(rules[shop], shop, best, state)) {
                    best = i;
                }
            }
        }
        return best;
    }

    int picks(int shop) {
        return shop == 0 || shop == 1 ? picks(shop, now()) : NONE;
    }

    int market(int n) {
        if (n < 0 || n > 60) {
            return NONE;
        }
        int s = now();
        int[] paid = new int[2];
        for (int day = 0; day < n; day++) {
            for (int shop = 1; shop >= 0; shop--) {
                int who = picks(shop, s);
                if (who >= 0) {
                    s ^= 1 << who;
                    paid[shop] += people.get(who).price;
                }
            }
            s = step(s);
        }
        tell(s, paid[0], paid[1]);
        return Integer.bitCount(s);
    }

    private final Map<List<Integer>, Integer> values = new HashMap<>();

    private int play(int shop, int state, int n, boolean byRule) {
        if (n == 0) {
            return Integer.bitCount(state);
        }
        List<Integer> key = List.of(shop, state, n);
        if (values.containsKey(key)) {
            return values.get(key);
        }
        int best = -1;
        if (shop == 0 && byRule) {
            int who = picks(0, state);
            best = play(1, step(who < 0 ? state : state ^ 1 << who), n - 1, true);
        } else {
            for (int who = -1; who < n(); who++) {
                if (who < 0 || !people.get(who).firm && in(state, who) == (shop == 0)) {
                    int then = who < 0 ? state : state ^ 1 << who;
                    int value = shop == 1 ? play(0, then, n, byRule) : play(1, step(then), n - 1, byRule);
                    if (best < 0 || shop == 1 && value > best || shop == 0 && value < best) {
                        best = value;
                    }
                }
            }
        }
        values.put(key, best);
        return best;
    }

    private int played(int n, boolean byRule) {
        values.clear();
        int value = play(1, now(), n, byRule);
        int first = NONE;
        if (n > 0 && play(0, now(), n, byRule) != value) {
            for (int i = n() - 1; i >= 0; i--) {
                if (!people.get(i).firm && !in(now(), i) && play(0, now() | 1 << i, n, byRule) == value) {
                    first = i;
                }
            }
        }
        tell(first);
        return value;
    }

    int game(int n) {
        return n < 0 || n > 3 ? NONE : played(n, false);
    }

    int against(int n) {
        return n < 0 || n > 6 ? NONE : played(n, true);
    }

    // ---- acquaintances

    private boolean allDo(int[][] how, int n) {
        int[] needs = new int[n()];
        for (int i = 0; i < n(); i++) {
            needs[i] = people.get(i).need;
        }
        int s = now();
        for (int day = 0; day <= n; day++) {
            if (s == full()) {
                return true;
            }
            s = step(s, needs, how);
        }
        return false;
    }

    private int[][] turned(int[][] how, int a, int b) {
        int[][] other = new int[14][];
        for (int i = 0; i < 14; i++) {
            other[i] = how[i].clone();
        }
        boolean made = how[a][b] == 0 && how[b][a] == 0;
        other[a][b] = made ? 1 : 0;
        other[b][a] = made ? 1 : 0;
        return other;
    }

    private List<int[]> pairs() {
        List<int[]> pairs = new ArrayList<>();
        for (int a = 0; a < n(); a++) {
            for (int b = a + 1; b < n(); b++) {
                pairs.add(new int[] { a, b });
            }
        }
        return pairs;
    }

    int change(int n) {
        if (n < 0 || n > 20) {
            return NONE;
        }
        if (allDo(loud, n)) {
            row = new ArrayList<>();
            return 0;
        }
        List<int[]> pairs = pairs();
        for (int[] p : pairs) {
            if (allDo(turned(loud, p[0], p[1]), n)) {
                tell(p[0], p[1]);
                return 1;
            }
        }
        for (int k = 0; k < pairs.size(); k++) {
            for (int m = k + 1; m < pairs.size(); m++) {
                int[] p = pairs.get(k);
                int[] q = pairs.get(m);
                if (allDo(turned(turned(loud, p[0], p[1]), q[0], q[1]), n)) {
                    tell(p[0], p[1], q[0], q[1]);
                    return 2;
                }
            }
        }
        return -2;
    }

    int single(int n) {
        if (n < 0 || n > 20) {
            return NONE;
        }
        int many = 0;
        int made = 0;
        for (int[] p : pairs()) {
            if (allDo(turned(loud, p[0], p[1]), n)) {
                many++;
                made += loud[p[0]][p[1]] + loud[p[1]][p[0]] == 0 ? 1 : 0;
            }
        }
        tell(made);
        return many;
    }

    int meet(int one, int other, int v) {
        if (!there(one) || !there(other) || one == other || v < 0 || v > 9) {
            return NONE;
        }
        int was = loud[one][other];
        loud[one][other] = v;
        loud[other][one] = v;
        return was;
    }

    // ---- kept

    boolean keep(int i) {
        if (i < 0 || i > 1) {
            return false;
        }
        saved[i] = new Saved();
        saved[i].people = n();
        saved[i].days = new ArrayList<>(days);
        saved[i].loud = new int[14][];
        for (int j = 0; j < 14; j++) {
            saved[i].loud[j] = loud[j].clone();
        }
        saved[i].needs = new int[n()];
        for (int j = 0; j < n(); j++) {
            saved[i].needs[j] = people.get(j).need;
        }
        return true;
    }

    boolean again(int i) {
        if (i < 0 || i > 1 || saved[i] == null || saved[i].people != n()) {
            return false;
        }
        days = new ArrayList<>(saved[i].days);
        for (int j = 0; j < 14; j++) {
            loud[j] = saved[i].loud[j].clone();
        }
        for (int j = 0; j < n(); j++) {
            people.get(j).need = saved[i].needs[j];
        }
        return true;
    }

    int count(int what) {
        switch (what) {
            case 0: return n();
            case 1: return days.size() - 1;
            case 2: return Integer.bitCount(now());
            case 3: return firmBits();
            case 4: return (rules[0].isEmpty() ? 0 : 1) + (rules[1].isEmpty() ? 0 : 2);
            case 5: return row.size();
            case 6: return text.length();
            case 7: return pairsHeard();
            default: return NONE;
        }
    }

    private int pairsHeard() {
        int many = 0;
        for (int[] p : pairs()) {
            many += loud[p[0]][p[1]] > 0 || loud[p[1]][p[0]] > 0 ? 1 : 0;
        }
        return many;
    }

    long row(int i) {
        if (i < 0 || i >= row.size()) {
            throw new NoSuchElementException();
        }
        return row.get(i);
    }
}

import java.util.ArrayList;
import java.util.Arrays;
import java.util.HashMap;
import java.util.List;
import java.util.Map;
import java.util.Set;

/** The document's words, done as plainly and slowly as can be: every way, every parting, every plan is tried. */
final class Oracle {
    static final int NONE = -1;
    private static final Set<String> KEPT = Set.of("days", "depot", "truck", "fixed", "mile", "hold", "lost", "shop",
        "at", "shelf", "stock", "sells", "rush");

    static final class Shop {
        String name;
        int x;
        int y;
        int shelf;
        int first;
        List<Integer> sells = new ArrayList<>();
    }

    record Rush(int shop, int day, int more) { }

    static final class World {
        int days = 7;
        int depotX = 0;
        int depotY = 0;
        int carries = 60;
        int fixed = 10;
        int mile = 1;
        int hold = 1;
        int lost = 20;
        List<Shop> shops = new ArrayList<>();
        List<Rush> rushes = new ArrayList<>();
    }

    record Kept(boolean[][] plan, List<Rush> rushes) { }

    static final class Fault extends RuntimeException {
        private static final long serialVersionUID = 1L;
        final int number;
        final int place;

        Fault(int number, int place) {
            this.number = number;
            this.place = place;
        }
    }

    private StringBuilder tape = new StringBuilder();
    private World w = new World();
    private boolean[][] plan = new boolean[0][7];
    private final List<Kept> acts = new ArrayList<>();
    private int fault = 0;
    private int place = NONE;
    private final Map<String, List<Integer>> partings = new HashMap<>();
    private final Map<Integer, List<Integer>> ways = new HashMap<>();

    // ---- the text

    int feed(int... numbers) {
        if (tape.length() + 20 > 800) {
            return NONE;
        }
        for (int n : numbers) {
            tape.append((char) (n >>> 24)).append((char) (n >> 16 & 255)).append((char) (n >> 8 & 255))
                .append((char) (n & 255));
        }
        return tape.length();
    }

    int end(int n) {
        if (n < 0 || n > tape.length()) {
            return NONE;
        }
        tape.setLength(n);
        return n;
    }

    int text() {
        String text = tape.toString();
        tape = new StringBuilder();
        try {
            w = new Parser(text).world();
        } catch (Fault f) {
            fault = f.number;
            place = f.place;
            return NONE;
        }
        fault = 0;
        place = NONE;
        plan = new boolean[w.shops.size()][w.days];
        acts.clear();
        partings.clear();
        ways.clear();
        return w.shops.size();
    }

    private static final class Parser {
        private final String text;
        private int at = 0;
        private String token = "";
        private int place = 0;

        Parser(String text) {
            this.text = text;
        }

        private boolean in(int i, char low, char high) {
            return i < text.length() && text.charAt(i) >= low && text.charAt(i) <= high;
        }

        private String next() {
            while (at < text.length() && " \n".indexOf(text.charAt(at)) >= 0) {
                at++;
            }
            place = at;
            if (at == text.length()) {
                token = "";
                return token;
            }
            if (text.charAt(at) == ';') {
                at++;
            } else if (in(at, 'a', 'z')) {
                while (in(at, 'a', 'z')) {
                    at++;
                }
                if (at - place > 6) {
                    throw new Fault(1, place);
                }
            } else if (in(at, '0', '9')) {
                while (in(at, '0', '9')) {
                    at++;
                }
                if (at - place > 2 || in(at, 'a', 'z')) {
                    throw new Fault(1, place);
                }
            } else {
                throw new Fault(1, place);
            }
            token = text.substring(place, at);
            return token;
        }

        private void must(boolean holds, int number) {
            if (!holds) {
                throw new Fault(number, place);
            }
        }

        private int isNumber(int low, int high) {
            must(token.matches("[0-9]+"), 2);
            int n = Integer.parseInt(token);
            must(n >= low && n <= high, 4);
            return n;
        }

        private int number(int low, int high) {
            next();
            return isNumber(low, high);
        }

        private void word(String word) {
            must(next().equals(word), 2);
        }

        private String name() {
            next();
            must(token.matches("[a-z]+") && !KEPT.contains(token), 2);
            return token;
        }

        World world() {
            World w = new World();
            List<String> once = new ArrayList<>();
            while (!next().isEmpty()) {
                String line = token;
                if (List.of("days", "depot", "truck", "hold", "lost").contains(line)) {
                    must(!once.contains(line) && w.shops.isEmpty(), 2);
                    once.add(line);
                }
                switch (line) {
                    case "days" -> w.days = number(1, 14);
                    case "depot" -> {
                        w.depotX = number(0, 30);
                        w.depotY = number(0, 30);
                    }
                    case "truck" -> w.carries = number(1, 99);
                    case "hold" -> w.hold = number(0, 9);
                    case "lost" -> w.lost = number(0, 99);
                    case "shop" -> shopLine(w);
                    case "rush" -> rushLine(w);
                    default -> must(false, 2);
                }
                if (!line.equals("shop")) {
                    next();
                }
                if (line.equals("truck") && token.equals("fixed")) {
                    w.fixed = number(0, 99);
                    next();
                }
                if (line.equals("truck") && token.equals("mile")) {
                    w.mile = number(0, 9);
                    next();
                }
                must(token.equals(";"), 2);
            }
            return w;
        }

        private void shopLine(World w) {
            must(w.shops.size() < 6, 5);
            Shop s = new Shop();
            s.name = name();
            must(w.shops.stream().noneMatch(o -> o.name.equals(s.name)), 3);
            word("at");
            s.x = number(0, 30);
            s.y = number(0, 30);
            word("shelf");
            s.shelf = number(1, w.carries);
            word("stock");
            s.first = number(0, s.shelf);
            word("sells");
            s.sells.add(number(0, 30));
            while (!next().equals(";")) {
                must(s.sells.size() < 7, 2);
                s.sells.add(isNumber(0, 30));
            }
            w.shops.add(s);
        }

        private void rushLine(World w) {
            must(w.rushes.size() < 12, 5);
            String name = name();
            int shop = NONE;
            for (int i = 0; i < w.shops.size(); i++) {
                shop = w.shops.get(i).name.equals(name) ? i : shop;
            }
            must(shop != NONE, 3);
            int day = number(0, w.days - 1);
            w.rushes.add(new Rush(shop, day, number(1, 60)));
        }
    }

    int fault(int what) {
        return what == 0 ? fault : what == 1 ? place : NONE;
    }

    int about(int what) {
        int[] all = {w.shops.size(), w.days, w.carries, w.fixed, w.mile, w.hold, w.lost, w.rushes.size(), acts.size(),
            tape.length(), w.depotX, w.depotY};
        return what >= 0 && what < all.length ? all[what] : NONE;
    }

    int shop(int shop, int what) {
        if (!isShop(shop)) {
            return NONE;
        }
        Shop s = w.shops.get(shop);
        if (what >= 10 && what < 10 + w.days) {
            return asked()[shop][what - 10];
        }
        int[] all = {s.x, s.y, s.shelf, s.first, bits(plan[shop]), far(shop, NONE)};
        return what >= 0 && what < all.length ? all[what] : NONE;
    }

    // ---- small things

    private boolean isShop(int shop) {
        return shop >= 0 && shop < w.shops.size();
    }

    private boolean isDay(int day) {
        return day >= 0 && day < w.days;
    }

    private static int bits(boolean[] days) {
        int bits = 0;
        for (int d = 0; d < days.length; d++) {
            bits += days[d] ? 1 << d : 0;
        }
        return bits;
    }

    private boolean[] daysOf(int bits) {
        boolean[] days = new boolean[w.days];
        for (int d = 0; d < w.days; d++) {
            days[d] = (bits >> d & 1) == 1;
        }
        return days;
    }

    private int far(int one, int other) {
        int x1 = one == NONE ? w.depotX : w.shops.get(one).x;
        int y1 = one == NONE ? w.depotY : w.shops.get(one).y;
        int x2 = other == NONE ? w.depotX : w.shops.get(other).x;
        int y2 = other == NONE ? w.depotY : w.shops.get(other).y;
        return Math.abs(x1 - x2) + Math.abs(y1 - y2);
    }

    private int[][] asked() {
        int[][] asked = new int[w.shops.size()][w.days];
        for (int s = 0; s < asked.length; s++) {
            List<Integer> sells = w.shops.get(s).sells;
            for (int d = 0; d < w.days; d++) {
                asked[s][d] = sells.get(d % sells.size());
            }
        }
        for (Rush r : w.rushes) {
            asked[r.shop][r.day] += r.more;
        }
        return asked;
    }

    private static boolean[][] copy(boolean[][] plan) {
        boolean[][] copy = new boolean[plan.length][];
        for (int s = 0; s < plan.length; s++) {
            copy[s] = plan[s].clone();
        }
        return copy;
    }

    // ---- the run

    record Result(int[][] load, int[][] stock, int[][] lost) {
        int allLost() {
            return Arrays.stream(lost).flatMapToInt(Arrays::stream).sum();
        }
    }

    private Result run(boolean[][] visits, int[][] asked) {
        int n = visits.length;
        Result r = new Result(new int[n][w.days], new int[n][w.days], new int[n][w.days]);
        for (int s = 0; s < n; s++) {
            int has = w.shops.get(s).first;
            for (int d = 0; d < w.days; d++) {
                if (visits[s][d]) {
                    r.load[s][d] = w.shops.get(s).shelf - has;
                    has = w.shops.get(s).shelf;
                }
                r.lost[s][d] = has < asked[s][d] ? asked[s][d] - has : 0;
                has = has < asked[s][d] ? 0 : has - asked[s][d];
                r.stock[s][d] = has;
            }
        }
        return r;
    }

    private Result now() {
        return run(plan, asked());
    }

    int load(int shop, int day) {
        return isShop(shop) && isDay(day) ? now().load[shop][day] : NONE;
    }

    int stock(int shop, int day) {
        return isShop(shop) && isDay(day) ? now().stock[shop][day] : NONE;
    }

    int lost(int shop, int day) {
        return isShop(shop) && isDay(day) ? now().lost[shop][day] : NONE;
    }

    int of(int shop, int what) {
        if (!isShop(shop) || what < 0 || what > 3) {
            return NONE;
        }
        Result r = now();
        int idle = 0;
        for (int d = 0; d < w.days; d++) {
            idle += plan[shop][d] && r.load[shop][d] == 0 ? 1 : 0;
        }
        int gone = Arrays.stream(r.lost[shop]).sum();
        int[] all = {Arrays.stream(r.load[shop]).sum(), Arrays.stream(asked()[shop]).sum() - gone, gone, idle};
        return all[what];
    }

    int empty(int shop) {
        for (int d = 0; isShop(shop) && d < w.days; d++) {
            if (now().lost[shop][d] > 0) {
                return d;
            }
        }
        return NONE;
    }

    int bears(int shop, int day) {
        if (!isShop(shop) || !isDay(day) || empty(shop) != NONE) {
            return NONE;
        }
        int[][] asked = asked();
        for (int more = 0; more <= 99; more++) {
            asked[shop][day]++;
            if (Arrays.stream(run(plan, asked).lost[shop]).sum() > 0) {
                return more;
            }
        }
        return 99;
    }

    int waits(int shop, int day) {
        if (!isShop(shop) || !isDay(day)) {
            return NONE;
        }
        boolean[][] visits = copy(plan);
        Arrays.fill(visits[shop], day + 1, w.days, false);
        Result r = run(visits, asked());
        for (int d = day + 1; d < w.days; d++) {
            if (r.lost[shop][d] > 0) {
                return d;
            }
        }
        return NONE;
    }

    int chance(int seed, int m, int spread, int what) {
        if (m < 1 || m > 20 || spread < 0 || spread > 20 || what < 0 || what > 1) {
            return NONE;
        }
        int runs = 0;
        int gone = 0;
        for (int i = 0; i < m; i++) {
            int dice = seed + i;
            int[][] asked = asked();
            for (int[] row : asked) {
                for (int d = 0; d < w.days; d++) {
                    dice = dice * 1103515245 + 12345;
                    row[d] += (dice >>> 16) % (2 * spread + 1) - spread;
                    row[d] = Math.max(row[d], 0);
                }
            }
            int lost = run(plan, asked).allLost();
            runs += lost > 0 ? 1 : 0;
            gone += lost;
        }
        return what == 0 ? runs : gone;
    }

    // ---- rounds

    private static void orders(List<Integer> rest, List<Integer> sofar, List<List<Integer>> all) {
        if (rest.isEmpty()) {
            all.add(new ArrayList<>(sofar));
        }
        for (Integer shop : rest) {
            List<Integer> others = new ArrayList<>(rest);
            others.remove(shop);
            sofar.add(shop);
            orders(others, sofar, all);
            sofar.remove(sofar.size() - 1);
        }
    }

    private static List<Integer> shopsOf(int set) {
        List<Integer> shops = new ArrayList<>();
        for (int s = 0; s < 6; s++) {
            if ((set >> s & 1) == 1) {
                shops.add(s);
            }
        }
        return shops;
    }

    private int milesOf(List<Integer> way) {
        int miles = 0;
        int from = NONE;
        for (int shop : way) {
            miles += far(from, shop);
            from = shop;
        }
        return miles + far(from, NONE);
    }

    /** The orders come in the order of their rows, so the first of like ones stays. */
    private List<Integer> way(int set) {
        return ways.computeIfAbsent(set, key -> {
            List<List<Integer>> all = new ArrayList<>();
            orders(shopsOf(key), new ArrayList<>(), all);
            List<Integer> best = all.get(0);
            for (List<Integer> one : all) {
                best = milesOf(one) < milesOf(best) ? one : best;
            }
            return best;
        });
    }

    private int roundCost(int set) {
        return w.fixed + w.mile * milesOf(way(set));
    }

    private static int sum(int[] loads, int set) {
        int sum = 0;
        for (int shop : shopsOf(set)) {
            sum += loads[shop];
        }
        return sum;
    }

    private void partings(int rest, int[] loads, int carries, List<Integer> sofar, List<List<Integer>> all) {
        if (rest == 0) {
            all.add(new ArrayList<>(sofar));
            return;
        }
        for (int set = 1; set <= rest; set++) {
            if ((set & ~rest) == 0 && (set & Integer.lowestOneBit(rest)) != 0 && sum(loads, set) <= carries) {
                sofar.add(set);
                partings(rest & ~set, loads, carries, sofar, all);
                sofar.remove(sofar.size() - 1);
            }
        }
    }

    private int costOfAll(List<Integer> sets) {
        return sets.stream().mapToInt(this::roundCost).sum();
    }

    private List<Integer> parted(int[] loads, int carries) {
        return partings.computeIfAbsent(Arrays.toString(loads) + carries, key -> {
            int set = 0;
            for (int s = 0; s < loads.length; s++) {
                set |= loads[s] > 0 ? 1 << s : 0;
            }
            List<List<Integer>> all = new ArrayList<>();
            partings(set, loads, carries, new ArrayList<>(), all);
            all.sort((a, b) -> {
                if (costOfAll(a) != costOfAll(b)) {
                    return costOfAll(a) - costOfAll(b);
                }
                if (a.size() != b.size()) {
                    return a.size() - b.size();
                }
                for (int i = 0; i < a.size(); i++) {
                    if (!a.get(i).equals(b.get(i))) {
                        return a.get(i) - b.get(i);
                    }
                }
                return 0;
            });
            return all.get(0);
        });
    }

    private int[] loadsOn(Result r, int day) {
        int[] loads = new int[r.load.length];
        for (int s = 0; s < loads.length; s++) {
            loads[s] = r.load[s][day];
        }
        return loads;
    }

    private List<Integer> roundsOn(int day) {
        return parted(loadsOn(now(), day), w.carries);
    }

    int rounds(int day) {
        return isDay(day) ? roundsOn(day).size() : NONE;
    }

    int round(int day, int k, int what) {
        if (!isDay(day) || k < 0 || k >= roundsOn(day).size()) {
            return NONE;
        }
        int set = roundsOn(day).get(k);
        if (what >= 10) {
            return what - 10 < way(set).size() ? way(set).get(what - 10) : NONE;
        }
        int[] all = {set, milesOf(way(set)), sum(loadsOn(now(), day), set), roundCost(set)};
        return what >= 0 && what < 4 ? all[what] : NONE;
    }

    int aboard(int day, int k, int i) {
        if (!isDay(day) || k < 0 || k >= roundsOn(day).size() || i < -1) {
            return NONE;
        }
        List<Integer> way = way(roundsOn(day).get(k));
        if (i >= way.size()) {
            return NONE;
        }
        int left = 0;
        for (int shop : way.subList(i + 1, way.size())) {
            left += now().load[shop][day];
        }
        return left;
    }

    int miles(int set) {
        return set < 0 || set >= 1 << w.shops.size() ? NONE : milesOf(way(set));
    }

    int together(int one, int other) {
        if (!isShop(one) || !isShop(other) || one == other) {
            return -1000000;
        }
        return roundCost(1 << one) + roundCost(1 << other) - roundCost(1 << one | 1 << other);
    }

    int savings(int day, int what) {
        if (!isDay(day) || what < 0 || what > 1) {
            return NONE;
        }
        int[] loads = loadsOn(now(), day);
        List<Integer> sets = new ArrayList<>();
        for (int s = 0; s < loads.length; s++) {
            if (loads[s] > 0) {
                sets.add(1 << s);
            }
        }
        boolean goesOn = true;
        while (goesOn) {
            List<Integer> best = sets;
            int bestKey = Integer.MAX_VALUE;
            for (int a : sets) {
                for (int b : sets) {
                    int lowA = Integer.numberOfTrailingZeros(a);
                    int lowB = Integer.numberOfTrailingZeros(b);
                    if (lowA >= lowB || sum(loads, a | b) > w.carries) {
                        continue;
                    }
                    List<Integer> other = new ArrayList<>(sets);
                    other.remove(Integer.valueOf(a));
                    other.remove(Integer.valueOf(b));
                    other.add(a | b);
                    boolean less = costOfAll(other) < costOfAll(best);
                    boolean like = best != sets && costOfAll(other) == costOfAll(best) && lowA * 10 + lowB < bestKey;
                    if (less || like) {
                        best = other;
                        bestKey = lowA * 10 + lowB;
                    }
                }
            }
            goesOn = best != sets;
            sets = best;
        }
        return what == 0 ? costOfAll(sets) : sets.size();
    }

    int share(int shop, int day, int what) {
        if (!isShop(shop) || !isDay(day) || what < 0 || what > 1) {
            return NONE;
        }
        int[] loads = loadsOn(now(), day);
        if (loads[shop] == 0) {
            return what;
        }
        int set = 0;
        for (int s = 0; s < loads.length; s++) {
            set |= loads[s] > 0 ? 1 << s : 0;
        }
        List<List<Integer>> all = new ArrayList<>();
        orders(shopsOf(set), new ArrayList<>(), all);
        long above = 0;
        for (List<Integer> order : all) {
            int[] some = new int[loads.length];
            for (int s : order) {
                int before = costOfAll(parted(some, w.carries));
                some[s] = loads[s];
                if (s == shop) {
                    above += costOfAll(parted(some, w.carries)) - before;
                    break;
                }
            }
        }
        long divisor = java.math.BigInteger.valueOf(above).gcd(java.math.BigInteger.valueOf(all.size())).longValue();
        return (int) ((what == 0 ? above : all.size()) / divisor);
    }

    int peak(int what) {
        int best = 0;
        for (int d = 0; d < w.days; d++) {
            best = Arrays.stream(loadsOn(now(), d)).sum() > Arrays.stream(loadsOn(now(), best)).sum() ? d : best;
        }
        return what == 0 ? best : what == 1 ? Arrays.stream(loadsOn(now(), best)).sum() : NONE;
    }

    // ---- cost

    private int[] costs(boolean[][] visits, int[][] asked, int carries) {
        Result r = run(visits, asked);
        int drives = 0;
        for (int d = 0; d < w.days; d++) {
            drives += costOfAll(parted(loadsOn(r, d), carries));
        }
        int stocks = w.hold * Arrays.stream(r.stock).flatMapToInt(Arrays::stream).sum();
        int gone = w.lost * r.allLost();
        return new int[] {drives + stocks + gone, drives, stocks, gone};
    }

    private int costOfPlan(boolean[][] visits) {
        return costs(visits, asked(), w.carries)[0];
    }

    int cost(int what) {
        return what < 0 || what > 3 ? NONE : costs(plan, asked(), w.carries)[what];
    }

    int costOf(int day) {
        return isDay(day) ? costOfAll(roundsOn(day)) : NONE;
    }

    int worth(int shop, int day) {
        if (!isShop(shop) || !isDay(day)) {
            return -1000000;
        }
        boolean[][] other = copy(plan);
        other[shop][day] = !other[shop][day];
        return costOfPlan(plan) - costOfPlan(other);
    }

    int truck(int cost) {
        if (cost < 0) {
            return -2;
        }
        int most = Arrays.stream(now().load).flatMapToInt(Arrays::stream).max().orElse(0);
        for (int carries = 1; carries <= 99; carries++) {
            if (most <= carries && costs(plan, asked(), carries)[0] <= cost) {
                return carries;
            }
        }
        return NONE;
    }

    private int[][] askedPercent(int percent) {
        int[][] asked = asked();
        for (int[] row : asked) {
            for (int d = 0; d < row.length; d++) {
                row[d] = row[d] * percent / 100;
            }
        }
        return asked;
    }

    int reach() {
        int best = NONE;
        for (int percent = 0; percent <= 300; percent++) {
            best = run(plan, askedPercent(percent)).allLost() == 0 ? percent : best;
        }
        return best;
    }

    int scaled(int percent) {
        return percent < 0 || percent > 300 ? NONE : costs(plan, askedPercent(percent), w.carries)[0];
    }

    // ---- plans

    private int costAlone(int shop, int bits) {
        boolean[][] visits = new boolean[w.shops.size()][w.days];
        visits[shop] = daysOf(bits);
        Result r = run(visits, asked());
        int cost = w.hold * Arrays.stream(r.stock[shop]).sum() + w.lost * Arrays.stream(r.lost[shop]).sum();
        for (int d = 0; d < w.days; d++) {
            cost += r.load[shop][d] > 0 ? roundCost(1 << shop) : 0;
        }
        return cost;
    }

    int alone(int shop, int what) {
        if (!isShop(shop) || what < 0 || what > 1) {
            return NONE;
        }
        int best = NONE;
        for (int bits = 0; bits < 1 << w.days; bits++) {
            boolean[][] visits = copy(plan);
            visits[shop] = daysOf(bits);
            if (Arrays.stream(run(visits, asked()).lost[shop]).sum() > 0) {
                continue;
            }
            if (best == NONE || isLess(costAlone(shop, bits), bits, costAlone(shop, best), best)) {
                best = bits;
            }
        }
        return best == NONE || what == 0 ? best : costAlone(shop, best);
    }

    private static boolean isLess(int cost, int bits, int otherCost, int otherBits) {
        int[] one = {cost, Integer.bitCount(bits), bits};
        int[] other = {otherCost, Integer.bitCount(otherBits), otherBits};
        return Arrays.compare(one, other) < 0;
    }

    int every(int shop, int what) {
        if (!isShop(shop) || what < 0 || what > 2) {
            return NONE;
        }
        int[] best = null;
        for (int p = 1; p <= 7; p++) {
            for (int f = 0; f < p; f++) {
                int bits = 0;
                for (int d = 0; d < w.days; d++) {
                    bits |= d >= f && (d - f) % p == 0 ? 1 << d : 0;
                }
                int[] one = {costAlone(shop, bits), -p, f};
                best = best == null || Arrays.compare(one, best) < 0 ? one : best;
            }
        }
        return what == 0 ? -best[1] : what == 1 ? best[2] : best[0];
    }

    int joint(int what) {
        if (what < 0 || what > 1) {
            return NONE;
        }
        int best = 0;
        int bestCost = Integer.MAX_VALUE;
        for (int bits = 0; bits < 1 << w.days; bits++) {
            boolean[][] visits = new boolean[w.shops.size()][];
            Arrays.fill(visits, daysOf(bits));
            int cost = costOfPlan(visits);
            if (isLess(cost, bits, bestCost, best)) {
                best = bits;
                bestCost = cost;
            }
        }
        return what == 0 ? best : bestCost;
    }

    private void keep() {
        acts.add(new Kept(copy(plan), new ArrayList<>(w.rushes)));
        if (acts.size() > 12) {
            acts.remove(0);
        }
    }

    private int visits() {
        return Arrays.stream(plan).mapToInt(row -> Integer.bitCount(bits(row))).sum();
    }

    int visit(int shop, int day) {
        if (!isShop(shop) || !isDay(day)) {
            return NONE;
        }
        keep();
        plan[shop][day] = !plan[shop][day];
        return plan[shop][day] ? 1 : 0;
    }

    int rule(int n) {
        if (n < 0 || n > 13) {
            return NONE;
        }
        keep();
        plan = new boolean[w.shops.size()][w.days];
        int[] has = w.shops.stream().mapToInt(s -> s.first).toArray();
        int[][] asked = asked();
        for (int d = 0; d < w.days; d++) {
            boolean one = false;
            for (int s = 0; s < has.length; s++) {
                one |= has[s] < asked[s][d];
            }
            for (int s = 0; s < has.length; s++) {
                int wanted = 0;
                for (int e = d; e <= d + n && e < w.days; e++) {
                    wanted += asked[s][e];
                }
                if (one && has[s] < wanted) {
                    plan[s][d] = true;
                    has[s] = w.shops.get(s).shelf;
                }
                has[s] = Math.max(0, has[s] - asked[s][d]);
            }
        }
        return visits();
    }

    private boolean moved() {
        for (int s = 0; s < plan.length; s++) {
            for (int d = 0; d < w.days; d++) {
                for (int to : new int[] {d - 1, d + 1}) {
                    if (!plan[s][d] || !isDay(to) || plan[s][to]) {
                        continue;
                    }
                    boolean[][] other = copy(plan);
                    other[s][d] = false;
                    other[s][to] = true;
                    if (costOfPlan(other) < costOfPlan(plan)) {
                        plan = other;
                        return true;
                    }
                }
            }
        }
        return false;
    }

    private boolean turned() {
        for (int s = 0; s < plan.length; s++) {
            for (int d = 0; d < w.days; d++) {
                boolean[][] other = copy(plan);
                other[s][d] = !other[s][d];
                if (costOfPlan(other) < costOfPlan(plan)) {
                    plan = other;
                    return true;
                }
            }
        }
        return false;
    }

    private int again(int n, boolean moves) {
        if (n < 1 || n > 40) {
            return NONE;
        }
        keep();
        Kept dropped = acts.get(acts.size() - 1);
        boolean[][] before = plan;
        int count = 0;
        while (count < n && (moves ? moved() : turned())) {
            count++;
        }
        if (count == 0) {
            acts.remove(dropped);
            plan = before;
        }
        return count;
    }

    /** What falls out of the kept acts for an act that was none must come back. */
    private int againSafely(int n, boolean moves) {
        List<Kept> before = new ArrayList<>(acts);
        int count = again(n, moves);
        if (count == 0) {
            acts.clear();
            acts.addAll(before);
        }
        return count;
    }

    int better(int n) {
        return againSafely(n, true);
    }

    int tune(int n) {
        return againSafely(n, false);
    }

    int least() {
        int cells = w.shops.size() * w.days;
        if (cells > 14) {
            return NONE;
        }
        keep();
        int best = 0;
        int bestCost = Integer.MAX_VALUE;
        for (int bits = 0; bits < 1 << cells; bits++) {
            int cost = costOfPlan(planOf(bits));
            if (isLess(cost, bits, bestCost, best)) {
                best = bits;
                bestCost = cost;
            }
        }
        plan = planOf(best);
        return bestCost;
    }

    private boolean[][] planOf(int bits) {
        boolean[][] some = new boolean[w.shops.size()][];
        for (int s = 0; s < some.length; s++) {
            some[s] = daysOf(bits >> s * w.days);
        }
        return some;
    }

    int clear() {
        int count = visits();
        if (count > 0) {
            keep();
            plan = new boolean[w.shops.size()][w.days];
        }
        return count;
    }

    int rush(int shop, int day, int n) {
        if (!isShop(shop) || !isDay(day) || n < 1 || n > 60 || w.rushes.size() >= 12) {
            return NONE;
        }
        keep();
        w.rushes.add(new Rush(shop, day, n));
        return w.rushes.size();
    }

    boolean undo() {
        if (acts.isEmpty()) {
            return false;
        }
        Kept kept = acts.remove(acts.size() - 1);
        plan = kept.plan;
        w.rushes = kept.rushes;
        return true;
    }
}

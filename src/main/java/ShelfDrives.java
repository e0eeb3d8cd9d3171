import java.util.Arrays;

/** A supplier who keeps the shelves of shops: a text of shops, a plan of visits, its run, its rounds, its cost. */
public final class ShelfDrives {
    public static final int NONE = -1;

    private static final int NOT_THERE = -1000000;
    private static final int BELOW_ZERO = -2;
    private static final int MOST_BYTES = 800;
    private static final int MOST_SHOPS = 6;
    private static final int MOST_DAYS = 14;
    private static final int MOST_RUSHES = 12;
    private static final int MOST_ACTS = 12;
    private static final int MOST_CARRIED = 99;
    private static final int MOST_PERCENT = 300;
    private static final int MOST_STEPS = 40;
    private static final int LEAST_PLAN_CELLS = 14;
    private static final int CELLS = MOST_SHOPS * MOST_DAYS;
    private static final int SETS = 1 << MOST_SHOPS;
    private static final int PLACES = MOST_SHOPS + 1;
    private static final int DEPOT = MOST_SHOPS;
    /** Above every cost and every way, and far enough below the greatest int that a price can be added. */
    private static final int TOO_MUCH = 1000000000;

    private final int[] tape = new int[MOST_BYTES];
    private int bytes = 0;
    private final Town town = new Town();
    private final Reader reader = new Reader();
    private final Ways ways = new Ways();
    private final Parting parting = new Parting(town);
    private final Savings merging = new Savings(town, parting);
    private final Run now = new Run(town, parting);
    private final Run trial = new Run(town, parting);
    private final Planner planner = new Planner(town);
    private final Common common = new Common(town, parting);
    private final Acts acts = new Acts();
    private final int[] loads = new int[MOST_SHOPS];

    public ShelfDrives() {
        beginAnew();
    }

    public int feed(int a, int b, int c, int d, int e) {
        if (bytes + 20 > MOST_BYTES) {
            return NONE;
        }
        putNumber(a);
        putNumber(b);
        putNumber(c);
        putNumber(d);
        putNumber(e);
        return bytes;
    }

    public int end(int n) {
        if (n < 0 || n > bytes) {
            return NONE;
        }
        bytes = n;
        return n;
    }

    public int text() {
        boolean whole = reader.readAll(tape, bytes);
        bytes = 0;
        if (!whole) {
            return NONE;
        }
        town.takeOver(reader.draft);
        beginAnew();
        return town.shops;
    }

    public int fault(int what) {
        switch (what) {
            case 0:
                return reader.fault;
            case 1:
                return reader.faultPlace;
            default:
                return NONE;
        }
    }

    public int about(int what) {
        switch (what) {
            case 0:
                return town.shops;
            case 1:
                return town.days;
            case 2:
                return town.carries;
            case 3:
                return town.fixed;
            case 4:
                return town.mile;
            case 5:
                return town.hold;
            case 6:
                return town.lostPrice;
            case 7:
                return town.rushes;
            case 8:
                return acts.kept;
            case 9:
                return bytes;
            case 10:
                return town.x[DEPOT];
            case 11:
                return town.y[DEPOT];
            default:
                return NONE;
        }
    }

    public int shop(int shop, int what) {
        if (!town.hasShop(shop)) {
            return NONE;
        }
        if (what >= 10) {
            return town.hasDay(what - 10) ? town.asked[cellOf(shop, what - 10)] : NONE;
        }
        switch (what) {
            case 0:
                return town.x[shop];
            case 1:
                return town.y[shop];
            case 2:
                return town.shelf[shop];
            case 3:
                return town.first[shop];
            case 4:
                return now.visits[shop];
            case 5:
                return ways.between(shop, DEPOT);
            default:
                return NONE;
        }
    }

    public int load(int shop, int day) {
        return hasCell(shop, day) ? now.load[cellOf(shop, day)] : NONE;
    }

    public int stock(int shop, int day) {
        return hasCell(shop, day) ? now.left[cellOf(shop, day)] : NONE;
    }

    public int lost(int shop, int day) {
        return hasCell(shop, day) ? now.missed[cellOf(shop, day)] : NONE;
    }

    public int of(int shop, int what) {
        if (!town.hasShop(shop)) {
            return NONE;
        }
        switch (what) {
            case 0:
                return now.sumOf(now.load, shop);
            case 1:
                return now.sumOf(now.asked, shop) - now.sumOf(now.missed, shop);
            case 2:
                return now.sumOf(now.missed, shop);
            case 3:
                return now.idleVisits(shop);
            default:
                return NONE;
        }
    }

    public int empty(int shop) {
        return town.hasShop(shop) ? now.firstMissed(shop) : NONE;
    }

    public int bears(int shop, int day) {
        if (!hasCell(shop, day) || now.firstMissed(shop) != NONE) {
            return NONE;
        }
        return now.spareFrom(shop, day);
    }

    public int waits(int shop, int day) {
        return hasCell(shop, day) ? now.lastsUntil(shop, day) : NONE;
    }

    public int chance(int seed, int m, int spread, int what) {
        if (m < 1 || m > 20 || spread < 0 || spread > 20 || what < 0 || what > 1) {
            return NONE;
        }
        int sum = 0;
        for (int i = 0; i < m; i++) {
            int gone = now.missedByChance(seed + i, spread);
            if (what == 1) {
                sum += gone;
            } else if (gone > 0) {
                sum++;
            }
        }
        return sum;
    }

    public int rounds(int day) {
        return town.hasDay(day) ? partDay(day) : NONE;
    }

    public int round(int day, int k, int what) {
        int set = roundSet(day, k);
        if (set == 0) {
            return NONE;
        }
        if (what >= 10) {
            int stops = ways.trace(set);
            return what - 10 < stops ? ways.row[what - 10] : NONE;
        }
        switch (what) {
            case 0:
                return set;
            case 1:
                return ways.milesTo(set);
            case 2:
                return parting.loadOf(set);
            case 3:
                return parting.roundPrice(set);
            default:
                return NONE;
        }
    }

    public int aboard(int day, int k, int i) {
        int set = roundSet(day, k);
        if (set == 0 || i < NONE) {
            return NONE;
        }
        int stops = ways.trace(set);
        if (i >= stops) {
            return NONE;
        }
        int left = parting.loadOf(set);
        for (int stop = 0; stop <= i; stop++) {
            left -= loads[ways.row[stop]];
        }
        return left;
    }

    public int miles(int set) {
        return set >= 0 && set < 1 << town.shops ? ways.milesTo(set) : NONE;
    }

    public int together(int one, int other) {
        if (!town.hasShop(one) || !town.hasShop(other) || one == other) {
            return NOT_THERE;
        }
        return parting.gain(1 << one, 1 << other);
    }

    public int savings(int day, int what) {
        if (!town.hasDay(day) || what < 0 || what > 1) {
            return NONE;
        }
        now.pickLoads(day, loads);
        merging.mergeAll(loads);
        return what == 0 ? merging.price() : merging.count;
    }

    public int share(int shop, int day, int what) {
        if (!hasCell(shop, day) || what < 0 || what > 1) {
            return NONE;
        }
        partDay(day);
        if (loads[shop] == 0) {
            return what;
        }
        int above = parting.shareSum(shop);
        int below = parting.orders();
        int divisor = greatestDivisor(above, below);
        return (what == 0 ? above : below) / divisor;
    }

    public int peak(int what) {
        int day = now.fullestDay();
        switch (what) {
            case 0:
                return day;
            case 1:
                return now.loadsOn(day);
            default:
                return NONE;
        }
    }

    public int cost(int what) {
        switch (what) {
            case 0:
                return now.wholeCost();
            case 1:
                return now.roundsCost();
            case 2:
                return now.stockCost();
            case 3:
                return now.lostCost();
            default:
                return NONE;
        }
    }

    public int costOf(int day) {
        return town.hasDay(day) ? now.priceOn(day) : NONE;
    }

    public int worth(int shop, int day) {
        if (!hasCell(shop, day)) {
            return NOT_THERE;
        }
        trial.takeOver(now);
        trial.setVisits(shop, now.visits[shop] ^ 1 << day);
        return now.wholeCost() - trial.wholeCost();
    }

    public int truck(int cost) {
        if (cost < 0) {
            return BELOW_ZERO;
        }
        int most = cost - now.stockCost() - now.lostCost();
        if (now.roundsCostWith(MOST_CARRIED) > most) {
            return NONE;
        }
        return leastTruck(Math.max(1, now.greatestLoad()), most);
    }

    public int reach() {
        trial.takeOver(now);
        if (losesAt(0)) {
            return NONE;
        }
        return greatestPercent();
    }

    public int scaled(int percent) {
        if (percent < 0 || percent > MOST_PERCENT) {
            return NONE;
        }
        trial.takeOver(now);
        trial.askPercent(percent);
        return trial.wholeCost();
    }

    public int alone(int shop, int what) {
        if (!town.hasShop(shop) || what < 0 || what > 1) {
            return NONE;
        }
        if (!common.findDays(1 << shop, false)) {
            return NONE;
        }
        return what == 0 ? common.bestDays() : common.bestCost();
    }

    public int every(int shop, int what) {
        if (!town.hasShop(shop) || what < 0 || what > 2) {
            return NONE;
        }
        trial.takeOver(now);
        planner.findEvery(trial, shop);
        switch (what) {
            case 0:
                return planner.everyStep;
            case 1:
                return planner.everyFrom;
            default:
                return planner.everyCost;
        }
    }

    public int joint(int what) {
        if (what < 0 || what > 1) {
            return NONE;
        }
        if (!common.findDays((1 << town.shops) - 1, true)) {
            return NONE;
        }
        return what == 0 ? common.bestDays() : common.bestCost();
    }

    public int visit(int shop, int day) {
        if (!hasCell(shop, day)) {
            return NONE;
        }
        keepAct();
        now.setVisits(shop, now.visits[shop] ^ 1 << day);
        return now.visits[shop] >> day & 1;
    }

    public int rule(int n) {
        if (n < 0 || n >= MOST_DAYS) {
            return NONE;
        }
        keepAct();
        planner.visitByRule(now, n);
        return now.countVisits();
    }

    public int better(int n) {
        if (n < 1 || n > MOST_STEPS) {
            return NONE;
        }
        trial.takeOver(now);
        int moves = 0;
        while (moves < n && planner.moveOne(trial)) {
            moves++;
        }
        adoptTrial(moves);
        return moves;
    }

    public int tune(int n) {
        if (n < 1 || n > MOST_STEPS) {
            return NONE;
        }
        trial.takeOver(now);
        int turns = 0;
        while (turns < n && planner.turnOne(trial)) {
            turns++;
        }
        adoptTrial(turns);
        return turns;
    }

    public int least() {
        if (town.shops * town.days > LEAST_PLAN_CELLS) {
            return NONE;
        }
        keepAct();
        planner.takeLeastPlan(now);
        return now.wholeCost();
    }

    public int clear() {
        int count = now.countVisits();
        if (count > 0) {
            keepAct();
            now.dropVisits();
        }
        return count;
    }

    public int rush(int shop, int day, int n) {
        if (!hasCell(shop, day) || n < 1 || n > 60 || town.rushes >= MOST_RUSHES) {
            return NONE;
        }
        keepAct();
        town.addRush(shop, day, n);
        now.askPercent(100);
        return town.rushes;
    }

    public boolean undo() {
        if (!acts.takeBack()) {
            return false;
        }
        town.keepRushes(acts.rushesBefore());
        for (int shop = 0; shop < town.shops; shop++) {
            now.setVisits(shop, acts.visitsBefore(shop));
        }
        now.askPercent(100);
        return true;
    }

    private void putNumber(int number) {
        for (int shift = 24; shift >= 0; shift -= 8) {
            tape[bytes] = number >>> shift & 255;
            bytes++;
        }
    }

    private void beginAnew() {
        ways.measure(town);
        parting.measure(ways);
        now.forget();
        now.askPercent(100);
        acts.forget();
    }

    private boolean hasCell(int shop, int day) {
        return town.hasShop(shop) && town.hasDay(day);
    }

    private static int cellOf(int shop, int day) {
        return shop * MOST_DAYS + day;
    }

    private int partDay(int day) {
        now.pickLoads(day, loads);
        return parting.part(loads, town.carries);
    }

    /** 0 stands for a round that is not there: a round has at least one shop. */
    private int roundSet(int day, int k) {
        if (!town.hasDay(day) || k < 0 || k >= partDay(day)) {
            return 0;
        }
        return parting.setAt(k);
    }

    /** What one truck can do a bigger one can too, so what it costs never rises and halves can be left out. */
    private int leastTruck(int least, int most) {
        int low = least;
        int high = MOST_CARRIED;
        for (int step = 0; step < MOST_CARRIED && low < high; step++) {
            int middle = (low + high) / 2;
            if (now.roundsCostWith(middle) <= most) {
                high = middle;
            } else {
                low = middle + 1;
            }
        }
        return low;
    }

    /** Who is asked for more never has more left, so halves can be left out here too. */
    private int greatestPercent() {
        int low = 0;
        int high = MOST_PERCENT;
        for (int step = 0; step < MOST_PERCENT && low < high; step++) {
            int middle = (low + high + 1) / 2;
            if (losesAt(middle)) {
                high = middle - 1;
            } else {
                low = middle;
            }
        }
        return low;
    }

    private boolean losesAt(int percent) {
        trial.askPercent(percent);
        return trial.allMissed > 0;
    }

    private void keepAct() {
        acts.keep(now.visits, town.rushes);
    }

    private void adoptTrial(int steps) {
        if (steps > 0) {
            keepAct();
            now.takeOver(trial);
        }
    }

    private static int greatestDivisor(int one, int other) {
        int a = Math.abs(one);
        int b = Math.abs(other);
        for (int step = 0; step < 100 && b != 0; step++) {
            int rest = a % b;
            a = b;
            b = rest;
        }
        return Math.max(1, a);
    }

    /** What the text tells, and the rushes that came later. */
    static final class Town {
        int days;
        int carries;
        int fixed;
        int mile;
        int hold;
        int lostPrice;
        int shops;
        int rushes;
        final int[] x = new int[PLACES];
        final int[] y = new int[PLACES];
        final int[] shelf = new int[MOST_SHOPS];
        final int[] first = new int[MOST_SHOPS];
        final int[] asked = new int[CELLS];
        final int[] rushCell = new int[MOST_RUSHES];
        final int[] rushMore = new int[MOST_RUSHES];

        Town() {
            forget();
        }

        void forget() {
            days = 7;
            carries = 60;
            fixed = 10;
            mile = 1;
            hold = 1;
            lostPrice = 20;
            shops = 0;
            rushes = 0;
            x[DEPOT] = 0;
            y[DEPOT] = 0;
            Arrays.fill(asked, 0);
        }

        void takeOver(Town other) {
            days = other.days;
            carries = other.carries;
            fixed = other.fixed;
            mile = other.mile;
            hold = other.hold;
            lostPrice = other.lostPrice;
            shops = other.shops;
            rushes = other.rushes;
            System.arraycopy(other.x, 0, x, 0, PLACES);
            System.arraycopy(other.y, 0, y, 0, PLACES);
            System.arraycopy(other.shelf, 0, shelf, 0, MOST_SHOPS);
            System.arraycopy(other.first, 0, first, 0, MOST_SHOPS);
            System.arraycopy(other.asked, 0, asked, 0, CELLS);
            System.arraycopy(other.rushCell, 0, rushCell, 0, MOST_RUSHES);
            System.arraycopy(other.rushMore, 0, rushMore, 0, MOST_RUSHES);
        }

        boolean hasShop(int shop) {
            return shop >= 0 && shop < shops;
        }

        boolean hasDay(int day) {
            return day >= 0 && day < days;
        }

        void addRush(int shop, int day, int more) {
            if (rushes >= MOST_RUSHES) {
                return;
            }
            rushCell[rushes] = cellOf(shop, day);
            rushMore[rushes] = more;
            asked[rushCell[rushes]] += more;
            rushes++;
        }

        /** Only the newest go: acts are taken back newest first. */
        void keepRushes(int count) {
            while (rushes > count && rushes > 0) {
                rushes--;
                asked[rushCell[rushes]] -= rushMore[rushes];
            }
        }
    }

    /** Reads the tape into a draft, so that a fault leaves all else as it was. */
    static final class Reader {
        private static final String KEPT_WORDS = "days depot truck fixed mile hold lost shop at shelf stock sells rush ";
        private static final int DAYS = 0;
        private static final int DEPOT_AT = 1;
        private static final int TRUCK = 2;
        private static final int FIXED = 3;
        private static final int MILE = 4;
        private static final int HOLD = 5;
        private static final int LOST = 6;
        private static final int SHOP = 7;
        private static final int AT = 8;
        private static final int SHELF = 9;
        private static final int STOCK = 10;
        private static final int SELLS = 11;
        private static final int RUSH = 12;
        private static final int KEPT = 13;
        private static final int NAME = 13;
        private static final int NUMBER = 14;
        private static final int SIGN = 15;
        private static final int AT_END = 16;
        private static final int NO_TOKEN = 17;
        private static final int MOST_LETTERS = 6;
        private static final int MOST_DIGITS = 2;
        private static final int MOST_SELLS = 7;
        private static final int MOST_PLACE = 30;
        private static final int MOST_SOLD = 30;

        final Town draft = new Town();
        int fault = 0;
        int faultPlace = NONE;
        private final int[] keptCodes = new int[KEPT];
        private final int[] kinds = new int[MOST_BYTES + 1];
        private final int[] places = new int[MOST_BYTES + 1];
        private final int[] values = new int[MOST_BYTES + 1];
        private int tokens;
        private int next;
        private int kind;
        private int place;
        private int value;
        private int seen;
        private final int[] names = new int[MOST_SHOPS];
        private final int[] sold = new int[MOST_SELLS];

        Reader() {
            int word = 0;
            int code = 0;
            for (int i = 0; i < KEPT_WORDS.length() && word < KEPT; i++) {
                char sign = KEPT_WORDS.charAt(i);
                if (sign == ' ') {
                    keptCodes[word] = code;
                    word++;
                    code = 0;
                } else {
                    code = withLetter(code, sign);
                }
            }
        }

        /** Six letters of five bits each fit an int, so a code tells a word from all others. */
        private static int withLetter(int code, int letter) {
            return code << 5 | letter - 'a' + 1;
        }

        boolean readAll(int[] tape, int bytes) {
            scanAll(tape, bytes);
            draft.forget();
            fault = 0;
            faultPlace = NONE;
            next = 0;
            seen = 0;
            for (int line = 0; line <= MOST_BYTES; line++) {
                step();
                if (kind == AT_END) {
                    return true;
                }
                if (!readLine()) {
                    return false;
                }
            }
            return refuse(2);
        }

        /** Nothing is read behind the end or behind what is no token, so nothing is scanned there. */
        private void scanAll(int[] tape, int bytes) {
            int at = 0;
            tokens = 0;
            for (int i = 0; i <= MOST_BYTES; i++) {
                while (at < bytes && (tape[at] == ' ' || tape[at] == 10)) {
                    at++;
                }
                places[tokens] = at;
                if (at >= bytes) {
                    kinds[tokens] = AT_END;
                } else if (tape[at] == ';') {
                    kinds[tokens] = SIGN;
                    at++;
                } else if (isLetter(tape[at])) {
                    at = scanWord(tape, at, bytes);
                } else if (isDigit(tape[at])) {
                    at = scanNumber(tape, at, bytes);
                } else {
                    kinds[tokens] = NO_TOKEN;
                }
                tokens++;
                if (kinds[tokens - 1] == AT_END || kinds[tokens - 1] == NO_TOKEN) {
                    return;
                }
            }
        }

        private int scanWord(int[] tape, int from, int bytes) {
            int at = from;
            int code = 0;
            while (at < bytes && isLetter(tape[at])) {
                code = withLetter(code, tape[at]);
                at++;
            }
            values[tokens] = code;
            kinds[tokens] = at - from > MOST_LETTERS ? NO_TOKEN : kindOfWord(code);
            return at;
        }

        private int scanNumber(int[] tape, int from, int bytes) {
            int at = from;
            int number = 0;
            while (at < bytes && isDigit(tape[at])) {
                number = number * 10 + tape[at] - '0';
                at++;
            }
            boolean runsOn = at - from > MOST_DIGITS || at < bytes && isLetter(tape[at]);
            values[tokens] = number;
            kinds[tokens] = runsOn ? NO_TOKEN : NUMBER;
            return at;
        }

        private int kindOfWord(int code) {
            for (int word = 0; word < KEPT; word++) {
                if (keptCodes[word] == code) {
                    return word;
                }
            }
            return NAME;
        }

        private static boolean isLetter(int sign) {
            return sign >= 'a' && sign <= 'z';
        }

        private static boolean isDigit(int sign) {
            return sign >= '0' && sign <= '9';
        }

        /** The last token is the end or no token: it stays where it is. */
        private void step() {
            int at = Math.min(next, tokens - 1);
            kind = kinds[at];
            place = places[at];
            value = values[at];
            next = at + 1;
        }

        /** At one place the least fault counts, so what is no token is 1 whatever was wanted there. */
        private boolean refuse(int number) {
            fault = kind == NO_TOKEN ? 1 : number;
            faultPlace = place;
            return false;
        }

        private boolean want(int wanted) {
            step();
            return kind == wanted || refuse(2);
        }

        private boolean wantNumber(int low, int high) {
            step();
            return isNumber(low, high);
        }

        private boolean isNumber(int low, int high) {
            if (kind != NUMBER) {
                return refuse(2);
            }
            return value >= low && value <= high || refuse(4);
        }

        private boolean readLine() {
            switch (kind) {
                case DAYS:
                    return isOnce() && readDays();
                case DEPOT_AT:
                    return isOnce() && readDepot();
                case TRUCK:
                    return isOnce() && readTruck();
                case HOLD:
                    return isOnce() && readHold();
                case LOST:
                    return isOnce() && readLost();
                case SHOP:
                    return readShop();
                case RUSH:
                    return readRush();
                default:
                    return refuse(2);
            }
        }

        private boolean isOnce() {
            int mark = 1 << kind;
            if ((seen & mark) != 0 || draft.shops > 0) {
                return refuse(2);
            }
            seen |= mark;
            return true;
        }

        private boolean readDays() {
            if (!wantNumber(1, MOST_DAYS)) {
                return false;
            }
            draft.days = value;
            return want(SIGN);
        }

        private boolean readDepot() {
            if (!wantNumber(0, MOST_PLACE)) {
                return false;
            }
            draft.x[DEPOT] = value;
            if (!wantNumber(0, MOST_PLACE)) {
                return false;
            }
            draft.y[DEPOT] = value;
            return want(SIGN);
        }

        private boolean readHold() {
            if (!wantNumber(0, 9)) {
                return false;
            }
            draft.hold = value;
            return want(SIGN);
        }

        private boolean readLost() {
            if (!wantNumber(0, 99)) {
                return false;
            }
            draft.lostPrice = value;
            return want(SIGN);
        }

        private boolean readTruck() {
            if (!wantNumber(1, MOST_CARRIED)) {
                return false;
            }
            draft.carries = value;
            step();
            if (kind == FIXED) {
                if (!wantNumber(0, 99)) {
                    return false;
                }
                draft.fixed = value;
                step();
            }
            if (kind == MILE) {
                if (!wantNumber(0, 9)) {
                    return false;
                }
                draft.mile = value;
                step();
            }
            return kind == SIGN || refuse(2);
        }

        private boolean readShop() {
            int shop = draft.shops;
            if (shop >= MOST_SHOPS) {
                return refuse(5);
            }
            if (!want(NAME)) {
                return false;
            }
            if (shopNamed(value) != NONE) {
                return refuse(3);
            }
            names[shop] = value;
            if (!want(AT) || !wantNumber(0, MOST_PLACE)) {
                return false;
            }
            draft.x[shop] = value;
            if (!wantNumber(0, MOST_PLACE)) {
                return false;
            }
            draft.y[shop] = value;
            if (!want(SHELF) || !wantNumber(1, draft.carries)) {
                return false;
            }
            draft.shelf[shop] = value;
            if (!want(STOCK) || !wantNumber(0, draft.shelf[shop])) {
                return false;
            }
            draft.first[shop] = value;
            return want(SELLS) && readSold(shop);
        }

        private boolean readSold(int shop) {
            int count = 0;
            step();
            while (count < MOST_SELLS && (kind != SIGN || count == 0)) {
                if (!isNumber(0, MOST_SOLD)) {
                    return false;
                }
                sold[count] = value;
                count++;
                step();
            }
            if (kind != SIGN || count == 0) {
                return refuse(2);
            }
            for (int day = 0; day < draft.days; day++) {
                draft.asked[cellOf(shop, day)] = sold[day % count];
            }
            draft.shops++;
            return true;
        }

        private boolean readRush() {
            if (draft.rushes >= MOST_RUSHES) {
                return refuse(5);
            }
            if (!want(NAME)) {
                return false;
            }
            int shop = shopNamed(value);
            if (shop == NONE) {
                return refuse(3);
            }
            if (!wantNumber(0, draft.days - 1)) {
                return false;
            }
            int day = value;
            if (!wantNumber(1, 60)) {
                return false;
            }
            draft.addRush(shop, day, value);
            return want(SIGN);
        }

        private int shopNamed(int name) {
            for (int shop = 0; shop < draft.shops; shop++) {
                if (names[shop] == name) {
                    return shop;
                }
            }
            return NONE;
        }
    }

    /** Miles between places and the least way to each set of shops. */
    static final class Ways {
        final int[] row = new int[MOST_SHOPS];
        private final int[] far = new int[PLACES * PLACES];
        private final int[] rest = new int[SETS * PLACES];
        private int shops;

        void measure(Town town) {
            shops = town.shops;
            for (int one = 0; one < PLACES; one++) {
                for (int other = 0; other < PLACES; other++) {
                    far[one * PLACES + other] =
                        Math.abs(town.x[one] - town.x[other]) + Math.abs(town.y[one] - town.y[other]);
                }
            }
            for (int set = 0; set < 1 << shops; set++) {
                for (int from = 0; from < PLACES; from++) {
                    rest[set * PLACES + from] = leastRest(set, from);
                }
            }
        }

        int between(int one, int other) {
            return far[one * PLACES + other];
        }

        int milesTo(int set) {
            return rest[set * PLACES + DEPOT];
        }

        /** Writes the way to a set into row, the least shop first where several lie on a least way; how many stops. */
        int trace(int set) {
            int from = DEPOT;
            int open = set;
            int stops = 0;
            while (open != 0 && stops < MOST_SHOPS) {
                int shop = nextStop(open, from);
                row[stops] = shop;
                stops++;
                open &= ~(1 << shop);
                from = shop;
            }
            return stops;
        }

        private int nextStop(int open, int from) {
            int miles = rest[open * PLACES + from];
            int last = 0;
            for (int shop = 0; shop < shops; shop++) {
                if ((open >> shop & 1) == 0) {
                    continue;
                }
                last = shop;
                if (milesBy(open, from, shop) == miles) {
                    return shop;
                }
            }
            return last;
        }

        private int leastRest(int open, int from) {
            if (open == 0) {
                return between(from, DEPOT);
            }
            int least = TOO_MUCH;
            for (int shop = 0; shop < shops; shop++) {
                if ((open >> shop & 1) == 1) {
                    least = Math.min(least, milesBy(open, from, shop));
                }
            }
            return least;
        }

        /** From a place by this shop first to all that are open and home. */
        private int milesBy(int open, int from, int shop) {
            return between(from, shop) + rest[(open ^ 1 << shop) * PLACES + shop];
        }
    }

    /** The loads of one day parted into rounds of least cost. */
    static final class Parting {
        private final Town town;
        private final int[] roundPrices = new int[SETS];
        private final int[] sum = new int[SETS];
        private final int[] price = new int[SETS];
        private final int[] count = new int[SETS];
        private final int[] head = new int[SETS];
        private int all;

        Parting(Town town) {
            this.town = town;
        }

        void measure(Ways ways) {
            for (int set = 0; set < 1 << town.shops; set++) {
                roundPrices[set] = town.fixed + town.mile * ways.milesTo(set);
            }
        }

        int roundPrice(int set) {
            return roundPrices[set];
        }

        /** How much less one round costs than two. */
        int gain(int one, int other) {
            return roundPrices[one] + roundPrices[other] - roundPrices[one | other];
        }

        /** What the rounds cost; the whole table is only made where one round is too few. */
        int priceOf(int[] loads, int carries) {
            int together = gather(loads);
            if (together <= carries) {
                return all == 0 ? 0 : roundPrices[all];
            }
            for (int set = 1; set <= all; set++) {
                partSet(set, carries);
            }
            return price[all];
        }

        /** Parts every set of shops that have a load; how many rounds all of them together have. */
        int part(int[] loads, int carries) {
            gather(loads);
            for (int set = 1; set <= all; set++) {
                partSet(set, carries);
            }
            return count[all];
        }

        private int gather(int[] loads) {
            int together = 0;
            all = 0;
            for (int shop = 0; shop < town.shops; shop++) {
                all |= loads[shop] > 0 ? 1 << shop : 0;
                sum[1 << shop] = loads[shop];
                together += loads[shop];
            }
            return together;
        }

        /** A way to two sets is never longer than a way to each, so what fits on one truck goes on one round. */
        private void partSet(int set, int carries) {
            if ((set & all) != set) {
                return;
            }
            int low = set & -set;
            int others = set ^ low;
            sum[set] = sum[low] + sum[others];
            head[set] = set;
            count[set] = 1;
            boolean fits = sum[set] <= carries;
            price[set] = fits ? roundPrices[set] : TOO_MUCH;
            if (fits) {
                return;
            }
            // some goes down through all the smaller parts of others, so of like ones the last is the least first set
            int some = others;
            while (some > 0) {
                some = some - 1 & others;
                int first = low | some;
                int rest = set ^ first;
                if (sum[first] > carries) {
                    continue;
                }
                int cost = roundPrices[first] + price[rest];
                if (cost < price[set] || cost == price[set] && 1 + count[rest] <= count[set]) {
                    price[set] = cost;
                    count[set] = 1 + count[rest];
                    head[set] = first;
                }
            }
        }

        int setAt(int k) {
            int rest = all;
            for (int i = 0; i < k && i < MOST_SHOPS; i++) {
                rest &= ~head[rest];
            }
            return head[rest];
        }

        int loadOf(int set) {
            return sum[set];
        }

        int orders() {
            return factorial(Integer.bitCount(all));
        }

        /** Over all orders: a set that is ahead of the shop is so in as many as it and those behind have orders. */
        int shareSum(int shop) {
            int others = all & ~(1 << shop);
            int most = Integer.bitCount(others);
            int total = 0;
            for (int ahead = 0; ahead <= others; ahead++) {
                if ((ahead & others) == ahead) {
                    int size = Integer.bitCount(ahead);
                    int times = factorial(size) * factorial(most - size);
                    total += times * (price[ahead | 1 << shop] - price[ahead]);
                }
            }
            return total;
        }

        private static int factorial(int n) {
            int product = 1;
            for (int i = 2; i <= n; i++) {
                product *= i;
            }
            return product;
        }
    }

    /** Rounds made one, two at a time, while it costs less. */
    static final class Savings {
        int count;
        private final Town town;
        private final Parting parting;
        private final int[] sets = new int[MOST_SHOPS];
        private final int[] sums = new int[MOST_SHOPS];

        Savings(Town town, Parting parting) {
            this.town = town;
            this.parting = parting;
        }

        void mergeAll(int[] loads) {
            count = 0;
            for (int shop = 0; shop < town.shops; shop++) {
                if (loads[shop] > 0) {
                    sets[count] = 1 << shop;
                    sums[count] = loads[shop];
                    count++;
                }
            }
            for (int step = 0; step < MOST_SHOPS; step++) {
                if (!mergeBest()) {
                    return;
                }
            }
        }

        int price() {
            int total = 0;
            for (int i = 0; i < count; i++) {
                total += parting.roundPrice(sets[i]);
            }
            return total;
        }

        /** The rounds stand by their least shops, so the first pair of like ones is the one that is asked for. */
        private boolean mergeBest() {
            int most = 0;
            int bestOne = 0;
            int bestOther = 0;
            for (int one = 0; one < count; one++) {
                for (int other = one + 1; other < count; other++) {
                    int gain = parting.gain(sets[one], sets[other]);
                    if (gain > most && sums[one] + sums[other] <= town.carries) {
                        most = gain;
                        bestOne = one;
                        bestOther = other;
                    }
                }
            }
            if (most > 0) {
                sets[bestOne] |= sets[bestOther];
                sums[bestOne] += sums[bestOther];
                removeRound(bestOther);
            }
            return most > 0;
        }

        private void removeRound(int gone) {
            count--;
            for (int i = gone; i < count; i++) {
                sets[i] = sets[i + 1];
                sums[i] = sums[i + 1];
            }
        }
    }

    /** A plan of visits, run day by day, with what it costs. */
    static final class Run {
        private static final int STALE = -1;
        private static final int ALL_DAYS = -1;

        final int[] visits = new int[MOST_SHOPS];
        final int[] asked = new int[CELLS];
        final int[] load = new int[CELLS];
        final int[] left = new int[CELLS];
        final int[] missed = new int[CELLS];
        int allMissed;
        private int allLeft;
        private final Town town;
        private final Parting parting;
        private final int[] dayPrice = new int[MOST_DAYS];
        private final int[] bag = new int[MOST_SHOPS];

        Run(Town town, Parting parting) {
            this.town = town;
            this.parting = parting;
        }

        void forget() {
            Arrays.fill(visits, 0);
            Arrays.fill(load, 0);
            Arrays.fill(left, 0);
            Arrays.fill(missed, 0);
            Arrays.fill(dayPrice, STALE);
            allMissed = 0;
            allLeft = 0;
        }

        void takeOver(Run other) {
            System.arraycopy(other.visits, 0, visits, 0, MOST_SHOPS);
            System.arraycopy(other.asked, 0, asked, 0, CELLS);
            System.arraycopy(other.load, 0, load, 0, CELLS);
            System.arraycopy(other.left, 0, left, 0, CELLS);
            System.arraycopy(other.missed, 0, missed, 0, CELLS);
            System.arraycopy(other.dayPrice, 0, dayPrice, 0, MOST_DAYS);
            allMissed = other.allMissed;
            allLeft = other.allLeft;
        }

        void askPercent(int percent) {
            for (int cell = 0; cell < CELLS; cell++) {
                asked[cell] = town.asked[cell] * percent / 100;
            }
            for (int shop = 0; shop < town.shops; shop++) {
                runFrom(shop, 0, ALL_DAYS);
            }
        }

        void setVisits(int shop, int bits) {
            int changed = visits[shop] ^ bits;
            if (changed != 0) {
                visits[shop] = bits;
                runFrom(shop, Integer.bitCount((changed & -changed) - 1), changed);
            }
        }

        void dropVisits() {
            for (int shop = 0; shop < town.shops; shop++) {
                setVisits(shop, 0);
            }
        }

        /**
         * Days ahead of the first one that changed stay as they are, and so do those behind the last one from an
         * evening on that is as it was; rounds are priced anew only where a load changed.
         */
        private void runFrom(int shop, int from, int changed) {
            int there = morning(shop, from);
            for (int day = from; day < town.days; day++) {
                int cell = cellOf(shop, day);
                int brought = isVisited(shop, day) ? town.shelf[shop] - there : 0;
                if (brought != load[cell]) {
                    load[cell] = brought;
                    dayPrice[day] = STALE;
                }
                there += brought;
                int sold = Math.min(there, asked[cell]);
                there -= sold;
                allMissed += asked[cell] - sold - missed[cell];
                missed[cell] = asked[cell] - sold;
                int was = left[cell];
                allLeft += there - was;
                left[cell] = there;
                if (there == was && changed >>> day + 1 == 0) {
                    return;
                }
            }
        }

        boolean isVisited(int shop, int day) {
            return (visits[shop] >> day & 1) == 1;
        }

        int morning(int shop, int day) {
            return day == 0 ? town.first[shop] : left[cellOf(shop, day - 1)];
        }

        int countVisits() {
            int count = 0;
            for (int shop = 0; shop < town.shops; shop++) {
                count += Integer.bitCount(visits[shop]);
            }
            return count;
        }

        int sumOf(int[] cells, int shop) {
            int sum = 0;
            for (int day = 0; day < town.days; day++) {
                sum += cells[cellOf(shop, day)];
            }
            return sum;
        }

        int idleVisits(int shop) {
            int count = 0;
            for (int day = 0; day < town.days; day++) {
                if (isVisited(shop, day) && load[cellOf(shop, day)] == 0) {
                    count++;
                }
            }
            return count;
        }

        int firstMissed(int shop) {
            for (int day = 0; day < town.days; day++) {
                if (missed[cellOf(shop, day)] > 0) {
                    return day;
                }
            }
            return NONE;
        }

        /** More that is asked for lowers each evening up to the next visit, which fills the shelf again. */
        int spareFrom(int shop, int from) {
            int spare = 99;
            for (int day = from; day < town.days; day++) {
                if (day > from && isVisited(shop, day)) {
                    return spare;
                }
                spare = Math.min(spare, left[cellOf(shop, day)]);
            }
            return spare;
        }

        int lastsUntil(int shop, int from) {
            int there = left[cellOf(shop, from)];
            for (int day = from + 1; day < town.days; day++) {
                there -= asked[cellOf(shop, day)];
                if (there < 0) {
                    return day;
                }
            }
            return NONE;
        }

        int missedByChance(int first, int spread) {
            int seed = first;
            int gone = 0;
            int width = 2 * spread + 1;
            for (int shop = 0; shop < town.shops; shop++) {
                int there = town.first[shop];
                for (int day = 0; day < town.days; day++) {
                    seed = seed * 1103515245 + 12345;
                    int wanted = Math.max(0, asked[cellOf(shop, day)] + (seed >>> 16) % width - spread);
                    there = isVisited(shop, day) ? town.shelf[shop] : there;
                    gone += Math.max(0, wanted - there);
                    there = Math.max(0, there - wanted);
                }
            }
            return gone;
        }

        void pickLoads(int day, int[] loads) {
            for (int shop = 0; shop < MOST_SHOPS; shop++) {
                loads[shop] = load[cellOf(shop, day)];
            }
        }

        int loadsOn(int day) {
            int sum = 0;
            for (int shop = 0; shop < town.shops; shop++) {
                sum += load[cellOf(shop, day)];
            }
            return sum;
        }

        int fullestDay() {
            int best = 0;
            for (int day = 1; day < town.days; day++) {
                if (loadsOn(day) > loadsOn(best)) {
                    best = day;
                }
            }
            return best;
        }

        int greatestLoad() {
            int most = 0;
            for (int cell = 0; cell < CELLS; cell++) {
                most = Math.max(most, load[cell]);
            }
            return most;
        }

        int priceOn(int day) {
            if (dayPrice[day] == STALE) {
                pickLoads(day, bag);
                dayPrice[day] = parting.priceOf(bag, town.carries);
            }
            return dayPrice[day];
        }

        int roundsCostWith(int carries) {
            int sum = 0;
            for (int day = 0; day < town.days; day++) {
                pickLoads(day, bag);
                sum += parting.priceOf(bag, carries);
            }
            return sum;
        }

        int stockCost() {
            return town.hold * allLeft;
        }

        int lostCost() {
            return town.lostPrice * allMissed;
        }

        int roundsCost() {
            return wholeCost() - stockCost() - lostCost();
        }

        int wholeCost() {
            int sum = town.hold * allLeft + town.lostPrice * allMissed;
            for (int day = 0; day < town.days; day++) {
                sum += priceOn(day);
            }
            return sum;
        }

        /** As if there were no other shop. */
        int costAlone(int shop) {
            int drives = 0;
            for (int day = 0; day < town.days; day++) {
                drives += load[cellOf(shop, day)] > 0 ? 1 : 0;
            }
            return drives * parting.roundPrice(1 << shop)
                + town.hold * sumOf(left, shop) + town.lostPrice * sumOf(missed, shop);
        }
    }

    /** Ways to make a plan on a run that is handed in. */
    static final class Planner {
        int everyStep;
        int everyFrom;
        int everyCost;
        private final Town town;

        Planner(Town town) {
            this.town = town;
        }

        void visitByRule(Run run, int ahead) {
            run.dropVisits();
            for (int day = 0; day < town.days; day++) {
                if (isOneShort(run, day)) {
                    visitShort(run, day, ahead);
                }
            }
        }

        private boolean isOneShort(Run run, int day) {
            for (int shop = 0; shop < town.shops; shop++) {
                if (run.morning(shop, day) < run.asked[cellOf(shop, day)]) {
                    return true;
                }
            }
            return false;
        }

        private void visitShort(Run run, int day, int ahead) {
            int last = Math.min(day + ahead, town.days - 1);
            for (int shop = 0; shop < town.shops; shop++) {
                int wanted = 0;
                for (int d = day; d <= last; d++) {
                    wanted += run.asked[cellOf(shop, d)];
                }
                if (run.morning(shop, day) < wanted) {
                    run.setVisits(shop, run.visits[shop] | 1 << day);
                }
            }
        }

        /** The first move that makes the plan cost less, if there is one. */
        boolean moveOne(Run run) {
            int before = run.wholeCost();
            for (int shop = 0; shop < town.shops; shop++) {
                for (int day = 0; day < town.days; day++) {
                    for (int to = day - 1; to <= day + 1; to += 2) {
                        if (run.isVisited(shop, day) && town.hasDay(to) && !run.isVisited(shop, to)
                            && turnIfLess(run, shop, 1 << day | 1 << to, before)) {
                            return true;
                        }
                    }
                }
            }
            return false;
        }

        /** The first visit that makes the plan cost less by coming or going, if there is one. */
        boolean turnOne(Run run) {
            int before = run.wholeCost();
            for (int shop = 0; shop < town.shops; shop++) {
                for (int day = 0; day < town.days; day++) {
                    if (turnIfLess(run, shop, 1 << day, before)) {
                        return true;
                    }
                }
            }
            return false;
        }

        private boolean turnIfLess(Run run, int shop, int days, int before) {
            int old = run.visits[shop];
            run.setVisits(shop, old ^ days);
            if (run.wholeCost() < before) {
                return true;
            }
            run.setVisits(shop, old);
            return false;
        }

        void takeLeastPlan(Run run) {
            int cells = Math.min(town.shops * town.days, LEAST_PLAN_CELLS);
            int plan = 0;
            int best = 0;
            int bestCost = TOO_MUCH;
            for (int left = 1 << cells; left > 0; left--) {
                setPlan(run, plan);
                int cost = run.wholeCost();
                if (cost < bestCost || cost == bestCost && isFewer(plan, best)) {
                    best = plan;
                    bestCost = cost;
                }
                plan = planBehind(plan, cells);
            }
            setPlan(run, best);
        }

        private static boolean isFewer(int plan, int other) {
            int more = Integer.bitCount(plan) - Integer.bitCount(other);
            return more < 0 || more == 0 && plan < other;
        }

        /** Counts from the highest bit down: late days change most often, and the days ahead of them need no new run. */
        private static int planBehind(int plan, int cells) {
            int next = plan;
            for (int bit = 1 << cells >> 1; bit > 0; bit >>= 1) {
                next ^= bit;
                if ((next & bit) != 0) {
                    return next;
                }
            }
            return next;
        }

        private void setPlan(Run run, int plan) {
            int rest = plan;
            for (int shop = 0; shop < town.shops; shop++) {
                run.setVisits(shop, rest & (1 << town.days) - 1);
                rest >>>= town.days;
            }
        }

        /** The greatest steps come first, so a like one behind never takes the place. */
        void findEvery(Run run, int shop) {
            everyCost = TOO_MUCH;
            for (int step = 7; step >= 1; step--) {
                for (int from = 0; from < step; from++) {
                    run.setVisits(shop, daysBy(step, from));
                    int cost = run.costAlone(shop);
                    if (cost < everyCost) {
                        everyCost = cost;
                        everyStep = step;
                        everyFrom = from;
                    }
                }
            }
        }

        private int daysBy(int step, int from) {
            int bits = 0;
            int every = Math.max(1, step);
            for (int day = from; day < town.days; day += every) {
                bits |= 1 << day;
            }
            return bits;
        }
    }

    /**
     * The best days for shops that are all visited on the same ones. A visit fills every shelf, so what comes
     * behind it does not depend on what was ahead: the best rows of days that end with a visit on each day suffice.
     */
    static final class Common {
        private final Town town;
        private final Parting parting;
        private final int[] cost = new int[MOST_DAYS + 2];
        private final int[] count = new int[MOST_DAYS + 2];
        private final int[] days = new int[MOST_DAYS + 2];
        private final int[] there = new int[MOST_SHOPS];
        private final int[] lacks = new int[MOST_SHOPS];

        Common(Town town, Parting parting) {
            this.town = town;
            this.parting = parting;
        }

        int bestCost() {
            return cost[town.days + 1];
        }

        int bestDays() {
            return days[town.days + 1];
        }

        /** Place 0 is the start, place d + 1 a visit on day d, the place behind these the end. */
        boolean findDays(int group, boolean mayLose) {
            Arrays.fill(cost, TOO_MUCH);
            Arrays.fill(lacks, 0);
            cost[0] = 0;
            count[0] = 0;
            days[0] = 0;
            for (int from = 0; from <= town.days; from++) {
                if (cost[from] != TOO_MUCH) {
                    goOn(from, group, mayLose);
                }
            }
            return cost[town.days + 1] != TOO_MUCH;
        }

        private void goOn(int from, int group, boolean mayLose) {
            int sofar = cost[from];
            for (int shop = 0; shop < town.shops; shop++) {
                there[shop] = from == 0 ? town.first[shop] : town.shelf[shop];
            }
            for (int day = Math.max(0, from - 1); day < town.days; day++) {
                if (day >= from) {
                    offer(day + 1, from, sofar + visitPrice(group), 1 << day);
                }
                int gone = sellDay(day, group);
                if (gone > 0 && !mayLose) {
                    return;
                }
                sofar += town.lostPrice * gone + town.hold * stockOf(group);
            }
            offer(town.days + 1, from, sofar, 0);
        }

        private void offer(int place, int from, int newCost, int bit) {
            int newCount = count[from] + Integer.bitCount(bit);
            int newDays = days[from] | bit;
            boolean isBest = newCost < cost[place] || newCost == cost[place]
                && (newCount < count[place] || newCount == count[place] && newDays < days[place]);
            if (isBest) {
                cost[place] = newCost;
                count[place] = newCount;
                days[place] = newDays;
            }
        }

        private int visitPrice(int group) {
            for (int shop = 0; shop < town.shops; shop++) {
                lacks[shop] = (group >> shop & 1) == 1 ? town.shelf[shop] - there[shop] : 0;
            }
            return parting.priceOf(lacks, town.carries);
        }

        private int sellDay(int day, int group) {
            int gone = 0;
            for (int shop = 0; shop < town.shops; shop++) {
                if ((group >> shop & 1) == 1) {
                    int sold = Math.min(there[shop], town.asked[cellOf(shop, day)]);
                    there[shop] -= sold;
                    gone += town.asked[cellOf(shop, day)] - sold;
                }
            }
            return gone;
        }

        private int stockOf(int group) {
            int sum = 0;
            for (int shop = 0; shop < town.shops; shop++) {
                sum += (group >> shop & 1) == 1 ? there[shop] : 0;
            }
            return sum;
        }
    }

    /** What was ahead of each of the latest acts: the visits of all shops and how many rushes. */
    static final class Acts {
        private static final int WIDTH = MOST_SHOPS + 1;

        int kept = 0;
        private final int[] rows = new int[MOST_ACTS * WIDTH];

        void forget() {
            kept = 0;
        }

        void keep(int[] visits, int rushes) {
            if (kept == MOST_ACTS) {
                System.arraycopy(rows, WIDTH, rows, 0, (MOST_ACTS - 1) * WIDTH);
                kept--;
            }
            System.arraycopy(visits, 0, rows, kept * WIDTH, MOST_SHOPS);
            rows[kept * WIDTH + MOST_SHOPS] = rushes;
            kept++;
        }

        boolean takeBack() {
            if (kept == 0) {
                return false;
            }
            kept--;
            return true;
        }

        int visitsBefore(int shop) {
            return rows[kept * WIDTH + shop];
        }

        int rushesBefore() {
            return rows[kept * WIDTH + MOST_SHOPS];
        }
    }
}

import java.util.Random;

/** Random runs of calls, each answer beside that of the oracle. */
public final class OracleTest {
    private static final int[] EDGES = {-1, Integer.MIN_VALUE, Integer.MAX_VALUE, 0, 1, -2, 6, 7, 14, 40, 41, 64, 300};

    private static final int NONE = ShelfDrives.NONE;

    private final Check check;
    private final Random dice;
    private final ShelfDrives x = new ShelfDrives();
    private final Oracle o = new Oracle();
    private final boolean isSmall;
    private final String name;

    private OracleTest(Check check, int seed, boolean isSmall) {
        this.check = check;
        this.dice = new Random(seed);
        this.isSmall = isSmall;
        this.name = "run " + seed + " ";
    }

    private void due(String call, long got, long want) {
        check.due(name + call, got, want);
    }

    private void put(String text) {
        byte[] bytes = Check.bytesOf(text);
        for (int at = 0; at < bytes.length; at += 20) {
            int[] n = new int[5];
            for (int i = 0; i < 5; i++) {
                n[i] = Check.number(bytes, at + 4 * i);
            }
            due("feed", x.feed(n[0], n[1], n[2], n[3], n[4]), o.feed(n));
        }
        due("end", x.end(bytes.length), o.end(bytes.length));
    }

    private int text(String text) {
        put(text);
        int got = x.text();
        due("text <" + text + ">", got, o.text());
        due("fault 0 <" + text + ">", x.fault(0), o.fault(0));
        due("fault 1 <" + text + ">", x.fault(1), o.fault(1));
        return got;
    }

    private int some(int low, int high) {
        if (dice.nextInt(40) == 0) {
            return EDGES[dice.nextInt(EDGES.length)];
        }
        return low + dice.nextInt(high - low + 1);
    }

    private int aShop() {
        return some(0, Math.max(0, x.about(0) - 1));
    }

    private int aDay() {
        return some(0, x.about(1) - 1);
    }

    private void ask() {
        int s = aShop();
        int d = aDay();
        int k = some(0, 3);
        int w = some(0, 3);
        int i = some(-1, 5);
        switch (dice.nextInt(24)) {
            case 0 -> due("about", x.about(i + 6), o.about(i + 6));
            case 1 -> due("shop", x.shop(s, i + w), o.shop(s, i + w));
            case 2 -> due("shop asked", x.shop(s, 10 + d), o.shop(s, 10 + d));
            case 3 -> due("load", x.load(s, d), o.load(s, d));
            case 4 -> due("stock", x.stock(s, d), o.stock(s, d));
            case 5 -> due("lost", x.lost(s, d), o.lost(s, d));
            case 6 -> due("of", x.of(s, w), o.of(s, w));
            case 7 -> due("empty", x.empty(s), o.empty(s));
            case 8 -> due("bears", x.bears(s, d), o.bears(s, d));
            case 9 -> due("waits", x.waits(s, d), o.waits(s, d));
            case 10 -> {
                int seed = dice.nextInt();
                int m = some(1, 20);
                int spread = some(0, 20);
                due("chance", x.chance(seed, m, spread, w & 1), o.chance(seed, m, spread, w & 1));
            }
            case 11 -> due("rounds", x.rounds(d), o.rounds(d));
            case 12 -> due("round", x.round(d, k, w), o.round(d, k, w));
            case 13 -> due("round way", x.round(d, k, 10 + i), o.round(d, k, 10 + i));
            case 14 -> due("aboard", x.aboard(d, k, i), o.aboard(d, k, i));
            case 15 -> {
                int set = some(0, (1 << x.about(0)) - 1);
                due("miles", x.miles(set), o.miles(set));
            }
            case 16 -> due("together", x.together(s, i), o.together(s, i));
            case 17 -> due("savings", x.savings(d, w), o.savings(d, w));
            case 18 -> due("share", x.share(s, d, w & 1), o.share(s, d, w & 1));
            case 19 -> due("peak", x.peak(w), o.peak(w));
            case 20 -> due("cost", x.cost(w), o.cost(w));
            case 21 -> due("costOf", x.costOf(d), o.costOf(d));
            case 22 -> due("worth", x.worth(s, d), o.worth(s, d));
            default -> due("every", x.every(s, w), o.every(s, w));
        }
    }

    private void askDear() {
        int w = some(0, 1);
        int s = aShop();
        switch (dice.nextInt(5)) {
            case 0 -> {
                int cost = some(0, 2 * Math.max(1, x.cost(0)));
                due("truck", x.truck(cost), o.truck(cost));
            }
            case 1 -> due("reach", x.reach(), o.reach());
            case 2 -> {
                int percent = some(0, 300);
                due("scaled", x.scaled(percent), o.scaled(percent));
            }
            case 3 -> due("alone", x.alone(s, w), o.alone(s, w));
            default -> {
                if (isSmall) {
                    due("joint", x.joint(w), o.joint(w));
                }
            }
        }
    }

    private void act() {
        int s = aShop();
        int d = aDay();
        int n = some(1, 40);
        switch (dice.nextInt(16)) {
            case 0 -> {
                int ahead = some(0, 4);
                due("rule", x.rule(ahead), o.rule(ahead));
            }
            case 1 -> due("better", x.better(n), o.better(n));
            case 2 -> due("tune", x.tune(n), o.tune(n));
            case 3 -> {
                if (isSmall) {
                    due("least", x.least(), o.least());
                }
            }
            case 4 -> due("clear", x.clear(), o.clear());
            case 5, 6 -> {
                int more = some(1, 20);
                due("rush", x.rush(s, d, more), o.rush(s, d, more));
            }
            case 7, 8 -> due("undo", x.undo() ? 1 : 0, o.undo() ? 1 : 0);
            default -> due("visit", x.visit(s, d), o.visit(s, d));
        }
        due("about 7", x.about(7), o.about(7));
        due("about 8", x.about(8), o.about(8));
        due("cost 0", x.cost(0), o.cost(0));
        for (int shop = 0; shop < x.about(0); shop++) {
            due("shop 4", x.shop(shop, 4), o.shop(shop, 4));
        }
    }

    private void run(int steps) {
        Texts texts = new Texts(dice);
        due("a whole text", text(texts.any(isSmall ? 14 : 84)) == NONE ? 1 : 0, 0);
        for (int i = 0; i < steps; i++) {
            act();
            for (int j = 0; j < 12; j++) {
                ask();
            }
            askDear();
            if (i == steps / 2) {
                text(texts.spoilt(texts.any(isSmall ? 14 : 84)));
            }
        }
    }

    /** JOINT and the dear plans at their full size. */
    private void runWide() {
        StringBuilder text = new StringBuilder("days 10; truck 30 fixed 7;");
        for (int s = 0; s < 4; s++) {
            text.append("shop ").append((char) ('a' + s)).append(" at ").append(dice.nextInt(9)).append(' ');
            text.append(dice.nextInt(9)).append(" shelf ").append(20 + dice.nextInt(11)).append(" stock 5 sells ");
            text.append(dice.nextInt(12)).append(' ').append(dice.nextInt(12)).append(";");
        }
        text(text.toString());
        due("joint 0", x.joint(0), o.joint(0));
        due("joint 1", x.joint(1), o.joint(1));
        due("tune", x.tune(40), o.tune(40));
        due("cost", x.cost(0), o.cost(0));
        due("better", x.better(40), o.better(40));
        due("cost", x.cost(0), o.cost(0));
    }

    private void runFaults(int times) {
        Texts texts = new Texts(dice);
        for (int i = 0; i < times; i++) {
            text(texts.spoilt(texts.any(84)));
        }
    }

    public static void main(String[] args) {
        Check check = new Check();
        int scale = args.length > 1 ? Integer.parseInt(args[1]) : 1;
        for (int seed = 0; seed < 120 * scale; seed++) {
            new OracleTest(check, seed, true).run(30);
        }
        for (int seed = 1000; seed < 1000 + 60 * scale; seed++) {
            new OracleTest(check, seed, false).run(30);
        }
        for (int seed = 5000; seed < 5000 + 4 * scale; seed++) {
            new OracleTest(check, seed, true).runWide();
        }
        for (int seed = 9000; seed < 9000 + 40 * scale; seed++) {
            new OracleTest(check, seed, true).runFaults(200);
        }
        check.end();
    }
}

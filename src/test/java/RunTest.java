/** Promises 8 to 15: the run of a plan, day by day. The numbers are worked out by hand. */
public final class RunTest {
    private static final int NONE = ShelfDrives.NONE;
    /** a: asked for 2 3 2 3, b: for 4 each day. */
    static final String TOWN = "days 4; truck 10 fixed 3 mile 2; hold 1; lost 5;"
        + "shop a at 1 0 shelf 6 stock 5 sells 2 3; shop b at 0 2 shelf 8 stock 1 sells 4;";

    private final Check check = new Check();

    /** a is visited on day 1, b on days 0 and 2. */
    static ShelfDrives planned() {
        ShelfDrives x = Check.of(TOWN);
        x.visit(0, 1);
        x.visit(1, 0);
        x.visit(1, 2);
        return x;
    }

    private void row(String name, int[] got, int... want) {
        for (int i = 0; i < want.length; i++) {
            check.due(name + " " + i, got[i], want[i]);
        }
    }

    private int[] loads(ShelfDrives x, int shop) {
        return new int[] {x.load(shop, 0), x.load(shop, 1), x.load(shop, 2), x.load(shop, 3)};
    }

    private int[] stocks(ShelfDrives x, int shop) {
        return new int[] {x.stock(shop, 0), x.stock(shop, 1), x.stock(shop, 2), x.stock(shop, 3)};
    }

    private int[] losts(ShelfDrives x, int shop) {
        return new int[] {x.lost(shop, 0), x.lost(shop, 1), x.lost(shop, 2), x.lost(shop, 3)};
    }

    private void promise8Load() {
        ShelfDrives x = Check.of(TOWN);
        row("no visits: load a", loads(x, 0), 0, 0, 0, 0);
        x = planned();
        row("load a", loads(x, 0), 0, 3, 0, 0);
        row("load b", loads(x, 1), 7, 0, 8, 0);
        check.due("load shop below", x.load(-1, 0), NONE);
        check.due("load shop above", x.load(2, 0), NONE);
        check.due("load day below", x.load(0, -1), NONE);
        check.due("load day above", x.load(0, 4), NONE);
        ShelfDrives full = Check.of("days 1; shop a at 0 0 shelf 3 stock 3 sells 1;");
        full.visit(0, 0);
        check.due("load of a full shelf", full.load(0, 0), 0);
    }

    private void promise9Stock() {
        row("no visits: stock a", stocks(Check.of(TOWN), 0), 3, 0, 0, 0);
        ShelfDrives x = planned();
        row("stock a", stocks(x, 0), 3, 3, 1, 0);
        row("stock b", stocks(x, 1), 4, 0, 4, 0);
        check.due("stock shop above", x.stock(2, 0), NONE);
        check.due("stock shop below", x.stock(-1, 0), NONE);
        check.due("stock day above", x.stock(0, 4), NONE);
        check.due("stock day below", x.stock(0, -1), NONE);
    }

    private void promise10Lost() {
        ShelfDrives x = Check.of(TOWN);
        row("no visits: lost a", losts(x, 0), 0, 0, 2, 3);
        row("no visits: lost b", losts(x, 1), 3, 4, 4, 4);
        x = planned();
        row("lost a", losts(x, 0), 0, 0, 0, 2);
        row("lost b", losts(x, 1), 0, 0, 0, 0);
        x.rush(1, 1, 9);
        row("lost b by a rush", losts(x, 1), 0, 9, 0, 0);
        check.due("lost shop above", x.lost(2, 0), NONE);
        check.due("lost shop below", x.lost(-1, 0), NONE);
        check.due("lost day above", x.lost(0, 4), NONE);
        check.due("lost day below", x.lost(0, -1), NONE);
    }

    private void promise11Of() {
        ShelfDrives x = planned();
        row("of a", new int[] {x.of(0, 0), x.of(0, 1), x.of(0, 2), x.of(0, 3)}, 3, 8, 2, 0);
        row("of b", new int[] {x.of(1, 0), x.of(1, 1), x.of(1, 2), x.of(1, 3)}, 15, 16, 0, 0);
        ShelfDrives idle = Check.of("days 3; shop a at 0 0 shelf 3 stock 3 sells 0;");
        idle.visit(0, 0);
        idle.visit(0, 2);
        check.due("visits with a load of 0", idle.of(0, 3), 2);
        check.due("of what below", x.of(0, -1), NONE);
        check.due("of what above", x.of(0, 4), NONE);
        check.due("of shop below", x.of(-1, 0), NONE);
        check.due("of shop above", x.of(2, 0), NONE);
    }

    private void promise12Empty() {
        ShelfDrives x = Check.of(TOWN);
        check.due("empty a", x.empty(0), 2);
        check.due("empty b", x.empty(1), 0);
        x = planned();
        check.due("planned: empty a", x.empty(0), 3);
        check.due("planned: empty b, its shelf is only bare", x.empty(1), NONE);
        check.due("empty shop below", x.empty(-1), NONE);
        check.due("empty shop above", x.empty(2), NONE);
    }

    private void promise13Bears() {
        ShelfDrives x = planned();
        check.due("bears where something is lost", x.bears(0, 0), NONE);
        check.due("bears up to the next visit", x.bears(1, 0), 0);
        ShelfDrives y = Check.of("days 4; shop a at 0 0 shelf 20 stock 9 sells 2; shop b at 1 1 shelf 60 stock 60 sells 0;");
        y.visit(0, 2);
        check.due("bears 0", y.bears(0, 0), 5);
        check.due("bears 1", y.bears(0, 1), 5);
        check.due("bears on the day of a visit", y.bears(0, 2), 16);
        check.due("bears 3", y.bears(0, 3), 16);
        check.due("bears of another", y.bears(1, 3), 60);
        ShelfDrives z = Check.of("truck 99; shop a at 0 0 shelf 99 stock 99 sells 0;");
        check.due("bears 99 at most", z.bears(0, 0), 99);
        check.due("bears shop above", y.bears(2, 0), NONE);
        check.due("bears shop below", y.bears(-1, 0), NONE);
        check.due("bears day above", y.bears(0, 4), NONE);
        check.due("bears day below", y.bears(0, -1), NONE);
    }

    private void promise14Waits() {
        ShelfDrives x = planned();
        check.due("waits a 0: its visit on day 1 goes", x.waits(0, 0), 2);
        check.due("waits a 1", x.waits(0, 1), 3);
        check.due("waits b 0", x.waits(1, 0), 2);
        check.due("waits b 1", x.waits(1, 1), 2);
        check.due("waits b 2", x.waits(1, 2), NONE);
        check.due("waits on the last day", x.waits(0, 3), NONE);
        check.due("waits shop above", x.waits(2, 0), NONE);
        check.due("waits shop below", x.waits(-1, 0), NONE);
        check.due("waits day above", x.waits(0, 4), NONE);
        check.due("waits day below", x.waits(0, -1), NONE);
    }

    /** Seed 1 becomes 1103527590: 16838 % 3 is 2; seed 2 becomes -2087924461: 33676 % 3 is 1. */
    private void promise15Chance() {
        ShelfDrives x = Check.of("days 1; shop a at 0 0 shelf 5 stock 3 sells 3;");
        check.due("chance of seed 1", x.chance(1, 1, 1, 1), 1);
        check.due("chance of seed 1 is one", x.chance(1, 1, 1, 0), 1);
        check.due("chance of seed 2", x.chance(2, 1, 1, 1), 0);
        check.due("chance of seeds 1, 2", x.chance(1, 2, 1, 0), 1);
        check.due("chance of seeds 0, 1, 2: 0 is 12345 >>> 16", x.chance(0, 3, 1, 1), 1);
        check.due("chance without spread", x.chance(1, 20, 0, 1), 0);
        x.rush(0, 0, 4);
        check.due("chance with a rush", x.chance(1, 2, 1, 1), 9);
        check.due("chance with a rush, in how many", x.chance(1, 2, 1, 0), 2);
        x.visit(0, 0);
        check.due("chance with a visit", x.chance(1, 2, 1, 1), 5);
        ShelfDrives y = planned();
        check.due("chance without spread is the run", y.chance(77, 1, 0, 1), 2);
        check.due("chance of 20", y.chance(77, 20, 0, 1), 40);
        check.due("chance m 0", x.chance(1, 0, 1, 0), NONE);
        check.due("chance m 21", x.chance(1, 21, 1, 0), NONE);
        check.due("chance spread below", x.chance(1, 1, -1, 0), NONE);
        check.due("chance spread 21", x.chance(1, 1, 21, 0), NONE);
        check.due("chance what below", x.chance(1, 1, 1, -1), NONE);
        check.due("chance what above", x.chance(1, 1, 1, 2), NONE);
    }

    public static void main(String[] args) {
        RunTest test = new RunTest();
        test.promise8Load();
        test.promise9Stock();
        test.promise10Lost();
        test.promise11Of();
        test.promise12Empty();
        test.promise13Bears();
        test.promise14Waits();
        test.promise15Chance();
        test.check.end();
    }
}

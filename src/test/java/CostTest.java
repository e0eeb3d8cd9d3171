/** Promises 24 to 29: cost and what it would be. The numbers are worked out by hand. */
public final class CostTest {
    private static final int NONE = ShelfDrives.NONE;
    private static final int NOT_THERE = -1000000;

    private final Check check = new Check();

    private void promise24Cost() {
        ShelfDrives x = Check.of(RunTest.TOWN);
        int[] bare = {103, 0, 3, 100};
        int[] planned = {54, 29, 15, 10};
        ShelfDrives y = RunTest.planned();
        for (int what = 0; what < 4; what++) {
            check.due("no visits: cost " + what, x.cost(what), bare[what]);
            check.due("cost " + what, y.cost(what), planned[what]);
        }
        check.due("cost what above", y.cost(4), NONE);
        check.due("cost what below", y.cost(-1), NONE);
    }

    private void promise25CostOf() {
        ShelfDrives x = RunTest.planned();
        int[] days = {11, 7, 11, 0, NONE};
        for (int day = 0; day < days.length; day++) {
            check.due("costOf " + day, x.costOf(day), days[day]);
        }
        check.due("costOf below", x.costOf(-1), NONE);
        x.visit(0, 2);
        check.due("costOf two rounds", x.costOf(2), 18);
        x.visit(0, 1);
        x.visit(0, 0);
        check.due("costOf one round for two", x.costOf(0), 15);
    }

    private void promise26Worth() {
        ShelfDrives x = RunTest.planned();
        check.due("worth of a visit that is there", x.worth(0, 1), -4);
        check.due("worth of one that is not", x.worth(0, 2), -1);
        check.due("worth of nothing", x.worth(0, 3), 0);
        check.due("worth of b's first", x.worth(1, 0), -20);
        check.due("nothing changed", x.cost(0), 54);
        check.due("no act", x.about(8), 3);
        check.due("worth shop above", x.worth(2, 0), NOT_THERE);
        check.due("worth shop below", x.worth(-1, 0), NOT_THERE);
        check.due("worth day above", x.worth(0, 4), NOT_THERE);
        check.due("worth day below", x.worth(0, -1), NOT_THERE);
    }

    private void promise27Truck() {
        ShelfDrives x = RunTest.planned();
        check.due("truck 54: no load above it", x.truck(54), 8);
        check.due("truck 53", x.truck(53), NONE);
        check.due("truck 0", x.truck(0), NONE);
        check.due("truck most", x.truck(Integer.MAX_VALUE), 8);
        x.visit(0, 2);
        check.due("truck 55: two rounds", x.truck(55), 8);
        check.due("truck 54: one round of 3 and 8", x.truck(54), 11);
        check.due("truck 52", x.truck(52), 11);
        check.due("truck 51", x.truck(51), NONE);
        check.due("truck below", x.truck(-1), -2);
        check.due("truck least", x.truck(Integer.MIN_VALUE), -2);
        check.due("truck without loads", Check.of("days 1;").truck(0), 1);
        check.due("the truck is as it was", x.about(2), 10);
        ShelfDrives big = Check.of("days 1; truck 50 fixed 1 mile 0; hold 0; shop a at 0 0 shelf 50 stock 0 sells 0;"
            + "shop b at 0 0 shelf 49 stock 0 sells 0;");
        big.visit(0, 0);
        big.visit(1, 0);
        check.due("truck 99 at most", big.truck(1), 99);
        ShelfDrives bigger = Check.of("days 1; truck 50 fixed 1 mile 0; hold 0; shop a at 0 0 shelf 50 stock 0 sells 0;"
            + "shop b at 0 0 shelf 50 stock 0 sells 0;");
        bigger.visit(0, 0);
        bigger.visit(1, 0);
        check.due("a truck of 100 is none", bigger.truck(1), NONE);
        check.due("two rounds of 50", bigger.truck(2), 50);
    }

    private void promise28Reach() {
        check.due("reach", RunTest.planned().reach(), 99);
        ShelfDrives x = Check.of("days 2; shop a at 0 0 shelf 9 stock 9 sells 1;");
        check.due("reach 300 at most", x.reach(), 300);
        ShelfDrives y = Check.of("days 1; shop a at 0 0 shelf 9 stock 0 sells 30;");
        check.due("reach: 3 of a hundred of 30 is cut to 0", y.reach(), 3);
        ShelfDrives z = Check.of("days 1; shop a at 0 0 shelf 9 stock 0 sells 30; rush a 0 60; rush a 0 10;");
        check.due("reach: 0", z.reach(), 0);
        check.due("nothing changed", z.shop(0, 10), 100);
    }

    private void promise29Scaled() {
        ShelfDrives x = RunTest.planned();
        check.due("scaled 0", x.scaled(0), 73);
        check.due("scaled 99", x.scaled(99), 55);
        check.due("scaled 100", x.scaled(100), 54);
        check.due("scaled 200", x.scaled(200), 160);
        check.due("scaled 300", x.scaled(300), 29 + 5 * (8 + 3 + 6 + 9 + 4 + 12 + 4 + 12 - 7));
        check.due("scaled below", x.scaled(-1), NONE);
        check.due("scaled above", x.scaled(301), NONE);
        check.due("nothing changed", x.cost(0), 54);
    }

    public static void main(String[] args) {
        CostTest test = new CostTest();
        test.promise24Cost();
        test.promise25CostOf();
        test.promise26Worth();
        test.promise27Truck();
        test.promise28Reach();
        test.promise29Scaled();
        test.check.end();
    }
}

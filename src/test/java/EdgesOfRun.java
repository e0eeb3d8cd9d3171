/** Promises 8 to 15: RUN and CHANCE. */
final class EdgesOfRun {
    private static final int NONE = Edge.NONE;
    /** a: full at first, asked for 2 3 1; b: bare, asked for nothing. */
    private static final String TOWN = "days 3; shop a at 0 0 shelf 5 stock 5 sells 2 3 1;"
        + "shop b at 1 1 shelf 4 stock 0 sells 0;";
    private static final String[] VISITS = {"visit(0, 0)", "visit(0, 1)", "visit(0, 2)", "visit(1, 2)"};

    private final Edges edges;

    private EdgesOfRun(Edges edges) {
        this.edges = edges;
    }

    /** Two shops, so many days: no other one answers. */
    private static void noSuchCell(Edge edge, String call, int days, long none) {
        int[][] cells = {{2, 0}, {-1, 0}, {0, days}, {0, -1}, {2, days}, {Edge.MOST, 0}, {Edge.LEAST, 0},
            {0, Edge.MOST}, {0, Edge.LEAST}, {1, 1 << 28}};
        for (int[] cell : cells) {
            edge.stays(call + "(" + cell[0] + ", " + cell[1] + ")", none);
        }
    }

    private void noSuchShopOrDay() {
        Edge edge = edges.term("---- RUN (NONE: no such SHOP, DAY).", 8, 9, 10, 11, 12, 13, 14);
        edge.town(TOWN).does(VISITS);
        for (String call : new String[] {"load", "stock", "lost", "bears", "waits"}) {
            noSuchCell(edge, call, 3, NONE);
        }
        edge.stays("load(1, 2)", 4).stays("stock(1, 2)", 4).stays("lost(1, 2)", 0).stays("bears(1, 2)", 4);
        edge.stays("waits(1, 2)", NONE).stays("of(1, 0)", 4).stays("of(2, 0)", NONE).stays("of(-1, 0)", NONE);
        edge.stays("empty(1)", NONE).stays("empty(2)", NONE).stays("empty(-1)", NONE);
        edge.anew().stays("load(0, 0)", NONE).stays("stock(0, 0)", NONE).stays("lost(0, 0)", NONE);
        edge.stays("of(0, 0)", NONE).stays("empty(0)", NONE).stays("bears(0, 0)", NONE).stays("waits(0, 0)", NONE);
        StringBuilder six = new StringBuilder("days 14; lost 1;");
        for (char name = 'a'; name <= 'f'; name++) {
            six.append("shop ").append(name).append(" at 1 2 shelf 9 stock 8 sells 1;");
        }
        edge.town(six.toString()).does("visit(5, 13)");
        edge.stays("load(5, 13)", 9).stays("load(6, 13)", NONE).stays("load(5, 14)", NONE).stays("stock(5, 13)", 8);
        edge.stays("stock(6, 13)", NONE).stays("stock(5, 14)", NONE).stays("lost(5, 12)", 1).stays("lost(5, 13)", 0);
        edge.stays("lost(6, 13)", NONE).stays("lost(5, 14)", NONE).stays("empty(5)", 8).stays("empty(6)", NONE);
        edge.stays("of(5, 2)", 5).stays("of(6, 2)", NONE).stays("waits(5, 12)", 13).stays("waits(5, 13)", NONE);
        edge.stays("waits(6, 12)", NONE).stays("waits(5, 14)", NONE).stays("bears(6, 13)", NONE);
    }

    private void whatTheShelfLacks() {
        Edge edge = edges.term("gets its LOAD: what its SHELF lacks (0, if it is full)", 8, 9, 11);
        edge.town(TOWN).does(VISITS).row("load(0, #)", 0, 2, 3).row("load(1, #)", 0, 0, 4);
        edge.row("stock(0, #)", 3, 2, 4).row("stock(1, #)", 0, 0, 4);
        edge.town("days 2; truck 99; shop a at 0 0 shelf 99 stock 0 sells 0; shop b at 0 0 shelf 1 stock 0 sells 1;");
        edge.does("visit(0, 0)", "visit(0, 1)", "visit(1, 0)", "visit(1, 1)");
        edge.row("load(0, #)", 99, 0).row("stock(0, #)", 99, 99).row("load(1, #)", 1, 1).row("stock(1, #)", 0, 0);
    }

    private void whatItHasNot() {
        Edge edge = edges.term("what it has not is LOST; what it has left is its STOCK of that evening", 9, 10, 12);
        edge.town("days 2; shop a at 0 0 shelf 9 stock 5 sells 5; shop b at 0 0 shelf 9 stock 5 sells 6;"
            + "shop c at 0 0 shelf 9 stock 5 sells 4;");
        edge.row("lost(0, #)", 0, 5).row("stock(0, #)", 0, 0).row("lost(1, #)", 1, 6).row("stock(1, #)", 0, 0);
        edge.row("lost(2, #)", 0, 3).row("stock(2, #)", 1, 0);
        edge.does("visit(0, 1)").row("lost(0, #)", 0, 0).row("stock(0, #)", 0, 4);
    }

    private void allThatIsTold() {
        Edge edge = edges.term("Then it is ASKED for what it SELLS on that DAY and all that is told of a rush", 7, 9, 10, 39);
        edge.town("days 2; shop a at 0 0 shelf 9 stock 9 sells 2; rush a 1 3; rush a 1 2;").does("rush(0, 1, 1)");
        edge.stays("shop(0, 10)", 2).stays("shop(0, 11)", 8).row("lost(0, #)", 0, 1).row("stock(0, #)", 7, 0);
        edge.does("undo()").row("lost(0, #)", 0, 0).row("stock(0, #)", 7, 0).stays("shop(0, 11)", 7);
    }

    private void noLoadWithoutAVisit() {
        Edge edge = edges.promise(8, "LOAD of a SHOP on a DAY (0 without a VISIT).");
        edge.town(TOWN).row("load(0, #)", 0, 0, 0, NONE).row("load(1, #)", 0, 0, 0, NONE);
        edge.does("visit(1, 0)").row("load(1, #)", 4, 0, 0, NONE).does("visit(1, 0)").row("load(1, #)", 0, 0, 0, NONE);
    }

    private void stockOfAnEvening() {
        Edge edge = edges.promise(9, "STOCK of an evening.");
        edge.town("days 14; truck 99; shop a at 0 0 shelf 99 stock 0 sells 0; shop b at 0 0 shelf 99 stock 99 sells 30;");
        edge.does("visit(0, 13)").stays("stock(0, 12)", 0).stays("stock(0, 13)", 99).stays("stock(0, 14)", NONE);
        edge.row("stock(1, #)", 69, 39, 9, 0, 0);
    }

    private void whatIsLost() {
        Edge edge = edges.promise(10, "What is LOST on a DAY.");
        edge.town("days 1; shop a at 0 0 shelf 60 stock 0 sells 30;");
        edge.stays("lost(0, 0)", 30).stays("lost(0, 1)", NONE);
        for (int i = 1; i <= 12; i++) {
            edge.due("rush(0, 0, 60)", i);
        }
        edge.stays("lost(0, 0)", 750).does("visit(0, 0)").stays("lost(0, 0)", 690);
    }

    private void ofAShop() {
        Edge edge = edges.promise(11, "3: VISITS with a LOAD of 0. NONE, too, for another what.");
        edge.town(TOWN).does(VISITS).row("of(0, #)", 5, 6, 0, 1, NONE).row("of(1, #)", 4, 0, 0, 0, NONE);
        edge.stays("of(0, -1)", NONE).stays("of(0, " + Edge.MOST + ")", NONE).stays("of(0, " + Edge.LEAST + ")", NONE);
        edge.town("days 14; shop a at 0 0 shelf 3 stock 3 sells 0; shop b at 0 0 shelf 3 stock 2 sells 3;");
        for (int day = 0; day < 14; day++) {
            edge.due("visit(0, " + day + ")", 1);
        }
        edge.row("of(0, #)", 0, 0, 0, 14).row("of(1, #)", 0, 2, 40, 0).stays("of(2, 3)", NONE);
    }

    private void firstLost() {
        Edge edge = edges.promise(12, "The first DAY on which a SHOP has LOST something; NONE if on none.");
        edge.town("days 14; shop a at 0 0 shelf 30 stock 28 sells 2; shop b at 0 0 shelf 30 stock 27 sells 2;"
            + "shop c at 0 0 shelf 30 stock 1 sells 2; shop d at 0 0 shelf 30 stock 3 sells 2;");
        edge.stays("empty(0)", NONE).stays("empty(1)", 13).stays("empty(2)", 0).stays("empty(3)", 1);
        edge.does("visit(3, 1)").stays("empty(3)", NONE).does("visit(2, 1)").stays("empty(2)", 0);
    }

    private void howMuchMore() {
        Edge edge = edges.promise(13, "How much more a SHOP could be ASKED for on a DAY (0 .. 99 at most) without "
            + "anything LOST by it on any DAY");
        edge.town("days 3; truck 99; shop a at 0 0 shelf 99 stock 99 sells 0; shop b at 0 0 shelf 9 stock 6 sells 2;");
        edge.row("bears(0, #)", 99, 99, 99, NONE).row("bears(1, #)", 0, 0, 0, NONE);
        edge.does("visit(1, 2)").row("bears(1, #)", 2, 2, 7, NONE);
        edge.does("rush(1, 1, 2)").stays("empty(1)", NONE).row("bears(1, #)", 0, 0, 7);
        edge.does("undo()", "rush(1, 1, 3)").stays("empty(1)", 1).row("bears(1, #)", NONE, NONE, NONE);
        edge.does("undo()", "rush(1, 2, 7)").row("bears(1, #)", 2, 2, 0).does("undo()", "rush(1, 2, 8)");
        edge.stays("bears(1, 2)", NONE);
    }

    private void bearsNothing() {
        Edge edge = edges.promise(13, "NONE, too, if it has LOST something.");
        edge.town("days 3; shop a at 0 0 shelf 9 stock 5 sells 2; shop b at 0 0 shelf 9 stock 6 sells 2;");
        edge.row("bears(0, #)", NONE, NONE, NONE).row("bears(1, #)", 0, 0, 0);
        edge.does("visit(0, 2)").row("bears(0, #)", 1, 1, 7);
    }

    private void howLongItWaits() {
        Edge edge = edges.promise(14, "The first DAY behind a DAY on which a SHOP would have LOST something, "
            + "were it not VISITED behind that; NONE, too, if on none.");
        edge.town("days 4; shop a at 0 0 shelf 6 stock 3 sells 1 4 0 3; shop b at 0 0 shelf 6 stock 6 sells 2 2 2 0;");
        edge.row("waits(0, #)", 1, 3, 3, NONE, NONE).row("waits(1, #)", NONE, NONE, NONE, NONE, NONE);
        edge.does("visit(0, 1)").row("waits(0, #)", 1, 3, 3, NONE);
        edge.does("visit(0, 3)").row("waits(0, #)", 1, 3, 3, NONE);
        edge.does("visit(0, 2)").row("waits(0, #)", 1, 3, NONE, NONE);
        edge.does("rush(1, 3, 1)").row("waits(1, #)", 3, 3, 3, NONE);
    }

    /** By 0 the seed becomes 12345, -740551042: 0, 54236; by 3: 50515, 7107, 10365, 41080 (each >>> 16). */
    private void chance() {
        Edge edge = edges.term("(seed >>> 16) % (2 * spread + 1) less spread is added to what is ASKED (0 at least then)",
            15);
        edge.town("days 3; shop a at 0 0 shelf 9 stock 8 sells 3;").stays("chance(0, 1, 0, 1)", 1);
        edge.stays("chance(0, 20, 0, 1)", 20).does("visit(0, 1)").stays("chance(0, 20, 0, 1)", 0);
        edge.town("days 2; shop a at 0 0 shelf 9 stock 5 sells 0;").stays("chance(0, 1, 20, 1)", 9);
        edge.stays("chance(0, 1, 20, 0)", 1).stays("chance(0, 1, 0, 1)", 0);
        edge.town("days 2; shop a at 0 0 shelf 9 stock 0 sells 10; shop b at 0 0 shelf 9 stock 0 sells 0;");
        edge.stays("chance(3, 1, 20, 1)", 36).stays("chance(3, 1, 20, 0)", 1).stays("chance(3, 1, 0, 1)", 20);
        edge.does("visit(0, 1)").stays("chance(3, 1, 20, 1)", 32).does("rush(0, 0, 8)");
        edge.stays("chance(3, 1, 20, 1)", 33);
    }

    /** By 2147483647 the seed becomes 1043980748, by -2147483648 -2147471303: 15929 and 32768, 2 and 1 more of 2. */
    private void chanceWraps() {
        Edge edge = edges.term("the seed becomes seed * 1103515245 + 12345 (an int, wrapping)", 15);
        edge.town("days 1; shop a at 0 0 shelf 5 stock 3 sells 3;");
        edge.stays("chance(2147483647, 1, 2, 1)", 2).stays("chance(-2147483648, 1, 2, 1)", 1);
        edge.stays("chance(2147483647, 2, 2, 1)", 3).stays("chance(2147483647, 2, 2, 0)", 2);
        edge.stays("chance(-1, 1, 1, 1)", 0).stays("chance(-1, 3, 1, 1)", 1).stays("chance(-1, 1, 20, 1)", 10);
    }

    private void chanceThatCantBe() {
        Edge edge = edges.promise(15, "CHANCE, m (1 .. 20) times, by seed, seed and 1, .., spread 0 .. 20, what 0: "
            + "in how many of these something is LOST, 1: how much is LOST in all of them. NONE if one can't be.");
        edge.town("days 1; shop a at 0 0 shelf 5 stock 3 sells 4;");
        edge.stays("chance(7, 1, 0, 0)", 1).stays("chance(7, 20, 0, 0)", 20).stays("chance(7, 20, 0, 1)", 20);
        edge.stays("chance(7, 0, 0, 0)", NONE).stays("chance(7, 21, 0, 0)", NONE).stays("chance(7, -1, 0, 1)", NONE);
        edge.stays("chance(1, 1, 20, 1)", 9).stays("chance(0, 1, 20, 1)", 0).stays("chance(0, 2, 20, 1)", 9);
        edge.stays("chance(0, 2, 20, 0)", 1).stays("chance(1, 1, 21, 1)", NONE).stays("chance(1, 1, -1, 1)", NONE);
        edge.stays("chance(1, 1, 0, -1)", NONE).stays("chance(1, 1, 0, 2)", NONE);
        edge.stays("chance(1, " + Edge.MOST + ", 0, 0)", NONE).stays("chance(1, " + Edge.LEAST + ", 0, 0)", NONE);
        edge.stays("chance(1, 1, " + Edge.MOST + ", 0)", NONE).stays("chance(1, 1, " + Edge.LEAST + ", 0)", NONE);
        edge.anew().stays("chance(1, 20, 20, 0)", 0).stays("chance(1, 20, 20, 1)", 0).stays("chance(1, 21, 20, 1)", NONE);
    }

    static void all(Edges edges) {
        EdgesOfRun of = new EdgesOfRun(edges);
        of.noSuchShopOrDay();
        of.whatTheShelfLacks();
        of.whatItHasNot();
        of.allThatIsTold();
        of.noLoadWithoutAVisit();
        of.stockOfAnEvening();
        of.whatIsLost();
        of.ofAShop();
        of.firstLost();
        of.howMuchMore();
        of.bearsNothing();
        of.howLongItWaits();
        of.chance();
        of.chanceWraps();
        of.chanceThatCantBe();
    }
}

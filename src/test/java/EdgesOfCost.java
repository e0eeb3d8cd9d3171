/** Promises 24 to 29: COST, and what it would be. */
final class EdgesOfCost {
    private static final int NONE = Edge.NONE;
    /** RunTest.planned(): rounds of 3 and 7, 8; cost 29 for rounds, 15 for stocks, 10 for what is lost. */
    private static final String[] VISITS = {"visit(0, 1)", "visit(1, 0)", "visit(1, 2)"};

    private final Edges edges;

    private EdgesOfCost(Edges edges) {
        this.edges = edges;
    }

    private static String six(String ahead, String line) {
        StringBuilder text = new StringBuilder(ahead);
        for (char name = 'a'; name <= 'f'; name++) {
            text.append("shop ").append(name).append(line);
        }
        return text.toString();
    }

    private void costByParts() {
        Edge edge = edges.promise(24, "COST what 0: of all, 1: of ROUNDS, 2: of STOCKS, 3: of what is LOST. "
            + "NONE for another what.");
        edge.town(RunTest.TOWN).row("cost(#)", 103, 0, 3, 100, NONE).does(VISITS).row("cost(#)", 54, 29, 15, 10, NONE);
        edge.stays("cost(-1)", NONE).stays("cost(" + Edge.MOST + ")", NONE).stays("cost(" + Edge.LEAST + ")", NONE);
        edge.anew().row("cost(#)", 0, 0, 0, 0, NONE);
    }

    private void theGreatestCosts() {
        Edge edge = edges.term("COST: of all ROUNDS of all DAYS, hold times all STOCKS of all evenings, "
            + "lost times all that is LOST.", 24);
        edge.town(six("days 14; lost 99;", " at 0 0 shelf 1 stock 0 sells 30;"));
        for (int i = 0; i < 12; i++) {
            edge.does("rush(" + i % 6 + ", " + i + ", 60)");
        }
        edge.row("cost(#)", 99 * (6 * 14 * 30 + 12 * 60), 0, 0, 99 * 3240);
        edge.town(six("days 14; truck 99; hold 9;", " at 0 0 shelf 99 stock 99 sells 0;"));
        edge.row("cost(#)", 9 * 6 * 14 * 99, 0, 9 * 6 * 14 * 99, 0);
        edge.town(six("days 14; truck 99 fixed 99 mile 9; hold 0;", " at 30 30 shelf 99 stock 69 sells 30;"));
        for (int day = 0; day < 14; day++) {
            for (int shop = 0; shop < 6; shop++) {
                edge.does("visit(" + shop + ", " + day + ")");
            }
        }
        edge.due("cost(0)", 14 * 2 * (99 + 9 * 120)).due("cost(1)", 33012).due("cost(2)", 0).due("cost(3)", 0);
        edge.town("lost 0; hold 0; shop a at 0 0 shelf 9 stock 9 sells 30;").row("cost(#)", 0, 0, 0, 0);
    }

    private void costOfADay() {
        Edge edge = edges.promise(25, "COST of ROUNDS of a DAY; NONE if there is none such.");
        edge.town(RunTest.TOWN).does(VISITS).row("costOf(#)", 11, 7, 11, 0, NONE).stays("costOf(-1)", NONE);
        edge.stays("costOf(" + Edge.MOST + ")", NONE).stays("costOf(" + Edge.LEAST + ")", NONE);
        edge.does("visit(0, 2)").row("costOf(#)", 11, 7, 18, 0, NONE);
        edge.town("days 14; shop a at 0 0 shelf 9 stock 0 sells 0;").does("visit(0, 13)").stays("costOf(13)", 10);
        edge.stays("costOf(12)", 0).stays("costOf(14)", NONE).anew().stays("costOf(6)", 0).stays("costOf(7)", NONE);
    }

    private void worth() {
        Edge edge = edges.promise(26, "How much less COST were (below 0: more), if a SHOP were VISITED on a DAY, "
            + "where it is not, or not, where it is; -1000000 if there are none such.");
        edge.town(RunTest.TOWN).row("worth(0, #)", -4, 4, 13, 5, Edge.NOT_THERE).does(VISITS);
        edge.row("worth(0, #)", -5, -4, -1, 0, Edge.NOT_THERE).stays("worth(1, 0)", -20).stays("worth(1, 3)", 54 - 69);
        edge.stays("worth(2, 0)", Edge.NOT_THERE).stays("worth(-1, 0)", Edge.NOT_THERE);
        edge.stays("worth(0, -1)", Edge.NOT_THERE).stays("worth(" + Edge.MOST + ", 0)", Edge.NOT_THERE);
        edge.stays("worth(0, " + Edge.LEAST + ")", Edge.NOT_THERE).anew().stays("worth(0, 0)", Edge.NOT_THERE);
        edge.town(six("days 14;", " at 0 0 shelf 1 stock 0 sells 1;")).stays("worth(5, 13)", 10);
        edge.stays("worth(6, 13)", Edge.NOT_THERE).stays("worth(5, 14)", Edge.NOT_THERE);
    }

    private void truckThatSuffices() {
        Edge edge = edges.promise(27, "The least that a truck must carry (1 .. 99) so that COST is no more than this; "
            + "NONE if with none (no LOAD above it, FIXED and MILE as they are).");
        edge.town(RunTest.TOWN).does(VISITS).stays("truck(54)", 8).stays("truck(53)", NONE).stays("truck(0)", NONE);
        edge.stays("truck(" + Edge.MOST + ")", 8).does("visit(0, 2)");
        edge.stays("truck(55)", 8).stays("truck(54)", 11).stays("truck(52)", 11).stays("truck(51)", NONE);
        String two = "days 1; truck 60 fixed 1 mile 0; hold 0; shop a at 0 0 shelf 50 stock 0 sells 0;"
            + "shop b at 0 0 shelf ";
        edge.town(two + "49 stock 0 sells 0;").does("visit(0, 0)", "visit(1, 0)");
        edge.stays("truck(1)", 99).stays("truck(2)", 50).stays("truck(0)", NONE);
        edge.town(two + "50 stock 0 sells 0;").does("visit(0, 0)", "visit(1, 0)");
        edge.stays("truck(1)", NONE).stays("truck(2)", 50);
        edge.town("truck 99; hold 0; shop a at 0 0 shelf 99 stock 0 sells 0;").does("visit(0, 0)");
        edge.stays("truck(10)", 99).stays("truck(9)", NONE).stays("truck(" + Edge.MOST + ")", 99);
        edge.town("hold 0; shop a at 0 0 shelf 9 stock 8 sells 0;").stays("truck(0)", 1).does("visit(0, 0)");
        edge.stays("truck(10)", 1).stays("truck(9)", NONE).anew().stays("truck(0)", 1);
    }

    private void truckBelowNothing() {
        Edge edge = edges.promise(27, "-2 for a number below 0.");
        edge.town(RunTest.TOWN).does(VISITS).stays("truck(0)", NONE).stays("truck(-1)", -2).stays("truck(-2)", -2);
        edge.stays("truck(" + Edge.LEAST + ")", -2).anew().stays("truck(0)", 1).stays("truck(-1)", -2);
    }

    private void reach() {
        Edge edge = edges.promise(28, "The greatest number of a hundred (0 .. 300) of what they are, for which all SHOPS "
            + "could be ASKED (each SHOP and DAY cut) so that nothing is LOST");
        edge.anew().stays("reach()", 300);
        edge.town("days 1; shop a at 0 0 shelf 9 stock 9 sells 3;").stays("reach()", 300);
        edge.town("days 1; shop a at 0 0 shelf 9 stock 9 sells 1;").stays("reach()", 300);
        edge.town("days 1; shop a at 0 0 shelf 9 stock 8 sells 3;").stays("reach()", 299);
        edge.town("days 1; shop a at 0 0 shelf 9 stock 3 sells 3;").stays("reach()", 133);
        edge.town("days 3; shop a at 0 0 shelf 9 stock 0 sells 1;").stays("reach()", 99).does("visit(0, 1)");
        edge.stays("reach()", 99).does("visit(0, 0)").stays("reach()", 300);
        edge.town("days 1; shop a at 0 0 shelf 9 stock 0 sells 30; rush a 0 60; rush a 0 9;").stays("reach()", 1);
        edge.does("rush(0, 0, 1)").stays("reach()", 0).does("rush(0, 0, 60)").stays("reach()", 0);
        edge.town("days 1; shop a at 0 0 shelf 9 stock 0 sells 0;").stays("reach()", 300);
        edge.town("days 1; shop a at 0 0 shelf 9 stock 9 sells 1; shop b at 0 0 shelf 9 stock 4 sells 5;");
        edge.stays("reach()", 99);
    }

    /** At 0 of a hundred nothing is asked for, so that nothing is lost: there is always one. */
    private void reachOfNone() {
        Edge edge = edges.promise(28, "NONE if for none.");
        edge.town("lost 99; shop a at 0 0 shelf 1 stock 0 sells 30;" + "rush a 0 60;".repeat(12)).stays("reach()", 0);
        edge.town("days 1; shop a at 0 0 shelf 1 stock 0 sells 30; rush a 0 60;").stays("reach()", 1);
        edge.does("rush(0, 0, 9)").stays("reach()", 1).does("rush(0, 0, 1)").stays("reach()", 0).does("visit(0, 0)");
        edge.stays("reach()", 1);
    }

    private void scaled() {
        Edge edge = edges.promise(29, "COST, were all SHOPS ASKED for so many of a hundred (0 .. 300) of what they are "
            + "(each SHOP and DAY cut); NONE if that can't be.");
        edge.town("days 3; lost 1; shop a at 0 0 shelf 9 stock 0 sells 1;");
        edge.stays("scaled(0)", 0).stays("scaled(99)", 0).stays("scaled(100)", 3).stays("scaled(199)", 3);
        edge.stays("scaled(200)", 6).stays("scaled(299)", 6).stays("scaled(300)", 9).stays("scaled(301)", NONE);
        edge.stays("scaled(-1)", NONE).stays("scaled(" + Edge.MOST + ")", NONE).stays("scaled(" + Edge.LEAST + ")", NONE);
        edge.town(RunTest.TOWN).does(VISITS).stays("scaled(0)", 73).stays("scaled(99)", 55).stays("scaled(100)", 54);
        edge.stays("cost(0)", 54).anew().stays("scaled(0)", 0).stays("scaled(300)", 0).stays("scaled(301)", NONE);
        edge.town("days 1; lost 1; shop a at 0 0 shelf 9 stock 0 sells 30;").does("rush(0, 0, 60)");
        edge.stays("scaled(300)", 270).stays("scaled(1)", 0).stays("scaled(2)", 1);
    }

    static void all(Edges edges) {
        EdgesOfCost of = new EdgesOfCost(edges);
        of.costByParts();
        of.theGreatestCosts();
        of.costOfADay();
        of.worth();
        of.truckThatSuffices();
        of.truckBelowNothing();
        of.reach();
        of.reachOfNone();
        of.scaled();
    }
}

/** Promises 33 and 38 to 40: VISITS that come and go, rushes, ACTS and UNDO. */
final class EdgesOfActs {
    private static final int NONE = Edge.NONE;

    private final Edges edges;

    private EdgesOfActs(Edges edges) {
        this.edges = edges;
    }

    private static Edge plan(Edge edge, int... visits) {
        for (int shop = 0; shop < visits.length; shop++) {
            edge.due("shop(" + shop + ", 4)", visits[shop]);
        }
        return edge;
    }

    private static String six(String ahead) {
        StringBuilder text = new StringBuilder(ahead);
        for (char name = 'a'; name <= 'f'; name++) {
            text.append("shop ").append(name).append(" at 1 1 shelf 9 stock 9 sells 1;");
        }
        return text.toString();
    }

    private void noVisitsAtFirst() {
        Edge edge = edges.term("A PLAN: VISITS: SHOPS on DAYS (none at first).", 4, 33);
        plan(edge.town(six("days 14;")), 0, 0, 0, 0, 0, 0).stays("clear()", 0).stays("cost(1)", 0);
    }

    private void visit() {
        Edge edge = edges.promise(33, "A SHOP is VISITED on a DAY from now on, or no more: 1 it is, 0 not; "
            + "NONE if there are none such. (An ACT.)");
        edge.town(six("days 14;")).due("visit(5, 13)", 1).due("visit(0, 0)", 1).due("visit(5, 0)", 1);
        plan(edge, 1, 0, 0, 0, 0, 8193).due("visit(5, 13)", 0).due("about(8)", 4);
        plan(edge, 1, 0, 0, 0, 0, 1);
        int[][] none = {{6, 0}, {-1, 0}, {0, 14}, {0, -1}, {6, 14}, {Edge.MOST, 0}, {Edge.LEAST, 0}, {0, Edge.MOST},
            {0, Edge.LEAST}, {0, 32}};
        for (int[] cell : none) {
            edge.stays("visit(" + cell[0] + ", " + cell[1] + ")", NONE);
        }
        edge.town("days 1; shop a at 0 0 shelf 1 stock 0 sells 0;").due("visit(0, 0)", 1).stays("visit(0, 1)", NONE);
        edge.stays("visit(1, 0)", NONE).anew().stays("visit(0, 0)", NONE);
    }

    private void clear() {
        Edge edge = edges.promise(38, "All VISITS go: how many there were. (An ACT, if there were some.)");
        edge.stays("clear()", 0).town(six("days 14;")).stays("clear()", 0).does("visit(5, 13)").due("clear()", 1);
        plan(edge, 0, 0, 0, 0, 0, 0).due("about(8)", 2).stays("clear()", 0).due("undo()", 1);
        plan(edge, 0, 0, 0, 0, 0, 8192);
        for (int cell = 0; cell < 83; cell++) {
            edge.due("visit(" + cell % 6 + ", " + cell / 6 + ")", 1);
        }
        edge.due("clear()", 84).due("about(8)", 12).due("undo()", 1);
        plan(edge, 16383, 16383, 16383, 16383, 16383, 16383);
    }

    private void rush() {
        Edge edge = edges.promise(39, "A rush of a SHOP on a DAY, n (1 .. 60) more: how many rushes there are; "
            + "NONE if there are none such, for another n, or there are 12. (An ACT.)");
        edge.town("days 2; shop a at 0 0 shelf 9 stock 9 sells 1; shop b at 0 0 shelf 9 stock 9 sells 2; rush b 0 3;");
        edge.stays("rush(0, 0, 0)", NONE).stays("rush(0, 0, 61)", NONE).stays("rush(0, 0, -1)", NONE);
        edge.stays("rush(0, 0, " + Edge.MOST + ")", NONE).stays("rush(0, 0, " + Edge.LEAST + ")", NONE);
        edge.stays("rush(2, 0, 1)", NONE).stays("rush(-1, 0, 1)", NONE).stays("rush(0, 2, 1)", NONE);
        edge.stays("rush(0, -1, 1)", NONE).stays("rush(" + Edge.MOST + ", 0, 1)", NONE);
        edge.stays("rush(0, " + Edge.LEAST + ", 1)", NONE).stays("about(8)", 0);
        edge.due("rush(0, 0, 1)", 2).due("shop(0, 10)", 2).due("rush(1, 1, 60)", 3).due("shop(1, 11)", 62);
        edge.due("about(8)", 2).due("lost(1, 1)", 58).stays("rush(1, 1, 61)", NONE);
        for (int count = 4; count <= 12; count++) {
            edge.due("rush(0, 1, 1)", count);
        }
        edge.stays("rush(0, 1, 1)", NONE).stays("rush(0, 0, 60)", NONE).due("shop(0, 11)", 10).due("about(8)", 11);
        edge.due("undo()", 1).due("about(7)", 11).due("shop(0, 11)", 9).due("rush(1, 0, 5)", 12).due("shop(1, 10)", 10);
        edge.stays("rush(0, 1, 1)", NONE).anew().stays("rush(0, 0, 1)", NONE);
    }

    private void twelveRushesInAll() {
        Edge edge = edges.term("a rush more (12 at most in all)", 39);
        String shop = "days 1; shop a at 0 0 shelf 9 stock 9 sells 0;";
        edge.town(shop + "rush a 0 1;".repeat(12)).stays("rush(0, 0, 1)", NONE).stays("about(7)", 12);
        edge.town(shop + "rush a 0 1;".repeat(11)).due("rush(0, 0, 1)", 12).stays("rush(0, 0, 1)", NONE);
        edge.due("undo()", 1).due("about(7)", 11).stays("undo()", 0).due("shop(0, 10)", 11).due("rush(0, 0, 2)", 12);
        edge.town(shop);
        for (int count = 1; count <= 12; count++) {
            edge.due("rush(0, 0, 60)", count);
        }
        edge.stays("rush(0, 0, 60)", NONE).due("shop(0, 10)", 720).due("about(8)", 12);
        for (int count = 11; count >= 0; count--) {
            edge.due("undo()", 1).due("about(7)", count).due("shop(0, 10)", 60 * count);
            edge.due("lost(0, 0)", Math.max(0, 60 * count - 9));
        }
        edge.stays("undo()", 0);
    }

    /** Each kind of act alone, and what it was ahead of it: a is visited on day 1. */
    private void eachAct() {
        Edge edge = edges.term("ACTS: a VISIT comes or goes, RULE, BETTER, TUNE, LEAST PLAN (the PLAN is that then), "
            + "all VISITS go", 33, 34, 35, 36, 37, 38, 39, 40);
        for (String act : new String[] {"visit(0, 3)", "visit(0, 1)", "rule(0)", "rule(13)", "better(1)", "better(40)",
            "tune(1)", "tune(40)", "least()", "clear()", "rush(0, 2, 5)"}) {
            edge.town(RunTest.TOWN).does("visit(0, 1)", act).due("about(8)", 2).due("undo()", 1).due("about(8)", 1);
            plan(edge, 2, 0).due("about(7)", 0).due("shop(0, 12)", 2).due("cost(0)", 99).due("lost(0, 3)", 2);
            edge.due("undo()", 1).due("cost(0)", 103).stays("undo()", 0);
        }
        plan(edge.town(RunTest.TOWN).does("visit(0, 1)", "least()"), 4, 5).due("cost(0)", 45);
        plan(edge.does("clear()"), 0, 0).due("about(8)", 3).due("cost(0)", 103);
    }

    private void takesBackTheLatest() {
        Edge edge = edges.term("UNDO takes back the latest that was not", 40);
        edge.town(RunTest.TOWN).does("visit(0, 0)", "rush(0, 0, 1)", "visit(1, 1)", "rush(1, 1, 2)", "clear()", "rule(0)");
        edge.due("about(8)", 6).due("undo()", 1);
        plan(edge, 0, 0).due("undo()", 1);
        plan(edge, 1, 2).due("about(7)", 2).due("undo()", 1).due("about(7)", 1).due("shop(1, 11)", 4).due("undo()", 1);
        plan(edge, 1, 0).due("visit(1, 3)", 1).due("about(8)", 3).due("undo()", 1);
        plan(edge, 1, 0).due("about(7)", 1).due("undo()", 1).due("about(7)", 0).due("shop(0, 10)", 2).due("undo()", 1);
        plan(edge, 0, 0).stays("undo()", 0).due("cost(0)", 103);
    }

    private void twelveAreKept() {
        Edge edge = edges.term("12 are kept, the oldest go", 6, 40);
        edge.town(RunTest.TOWN).does("rush(0, 0, 7)");
        for (int i = 1; i < 12; i++) {
            edge.due("visit(0, 0)", i % 2);
        }
        edge.due("about(8)", 12);
        Edge other = edges.term("12 are kept, the oldest go", 6, 40);
        other.town(RunTest.TOWN).does("rush(0, 0, 7)");
        for (int i = 1; i < 13; i++) {
            other.due("visit(0, 0)", i % 2);
        }
        other.due("about(8)", 12).stays("better(41)", NONE);
        for (int left = 11; left >= 0; left--) {
            edge.due("undo()", 1).due("about(8)", left);
            other.due("undo()", 1).due("about(8)", left);
        }
        edge.stays("undo()", 0).due("about(7)", 0).due("shop(0, 10)", 2).due("cost(0)", 103);
        plan(other, 0, 0).stays("undo()", 0).due("about(7)", 1).due("shop(0, 10)", 9);
        other.due("rush(1, 0, 1)", 2).due("about(8)", 1).due("undo()", 1).due("about(7)", 1).stays("undo()", 0);
    }

    private void manyActs() {
        Edge edge = edges.term("12 are kept, the oldest go", 40);
        edge.town(six("days 14;"));
        for (int i = 0; i < 60; i++) {
            edge.due("visit(" + i % 6 + ", " + i / 6 + ")", 1);
        }
        edge.due("about(8)", 12);
        for (int i = 59; i >= 48; i--) {
            edge.due("shop(" + i % 6 + ", 4)", (2 << i / 6) - 1).due("undo()", 1);
            edge.due("shop(" + i % 6 + ", 4)", (1 << i / 6) - 1);
        }
        plan(edge.stays("undo()", 0), 255, 255, 255, 255, 255, 255).due("clear()", 48).due("about(8)", 1);
    }

    private void undo() {
        Edge edge = edges.promise(40, "UNDO: true; false if there is none.");
        edge.stays("undo()", 0).due("rule(0)", 0).due("undo()", 1).stays("undo()", 0);
        edge.town(RunTest.TOWN).stays("undo()", 0).due("visit(0, 0)", 1).due("undo()", 1).stays("undo()", 0);
        edge.does("visit(0, 0)").puts("!").does("text()").due("undo()", 1).stays("undo()", 0);
        edge.does("visit(0, 0)").puts(RunTest.TOWN).does("text()").stays("undo()", 0);
    }

    static void all(Edges edges) {
        EdgesOfActs of = new EdgesOfActs(edges);
        of.noVisitsAtFirst();
        of.visit();
        of.clear();
        of.rush();
        of.twelveRushesInAll();
        of.eachAct();
        of.takesBackTheLatest();
        of.twelveAreKept();
        of.manyActs();
        of.undo();
    }
}

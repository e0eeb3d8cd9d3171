/** Promises 30 to 32 and 34 to 37: ALONE, every, JOINT, RULE, BETTER, TUNE, LEAST PLAN. */
final class EdgesOfPlans {
    private static final int NONE = Edge.NONE;
    /** Nothing costs anything but what is lost. */
    private static final String FREE = "truck 60 fixed 0 mile 0; hold 0; lost 1;";

    private final Edges edges;

    private EdgesOfPlans(Edges edges) {
        this.edges = edges;
    }

    private static String six(String ahead, String line) {
        StringBuilder text = new StringBuilder(ahead);
        for (char name = 'a'; name <= 'f'; name++) {
            text.append("shop ").append(name).append(line);
        }
        return text.toString();
    }

    private static Edge plan(Edge edge, int... visits) {
        for (int shop = 0; shop < visits.length; shop++) {
            edge.due("shop(" + shop + ", 4)", visits[shop]);
        }
        return edge;
    }

    private void byItself() {
        Edge edge = edges.term("ALONE: of a SHOP by itself (its VISITS alone, ROUNDS to it alone)", 30, 31);
        String b = "shop b at 1 0 shelf 5 stock 5 sells 5;";
        edge.town("days 2;" + b).row("alone(0, #)", 2, 12, NONE).row("every(0, #)", 7, 1, 12, NONE);
        edge.town("days 2; shop a at 9 9 shelf 9 stock 0 sells 9;" + b).does("visit(0, 1)", "visit(1, 0)", "visit(0, 0)");
        edge.row("alone(1, #)", 2, 12, NONE).row("every(1, #)", 7, 1, 12, NONE);
    }

    private void nothingLost() {
        Edge edge = edges.term("the VISITS by which it has LOST nothing and COST is least", 30);
        edge.town("days 2; lost 0; shop a at 1 0 shelf 5 stock 5 sells 5; shop b at 1 0 shelf 5 stock 5 sells 5 6;"
            + "shop c at 1 0 shelf 5 stock 4 sells 5;");
        edge.row("alone(0, #)", 2, 12).row("alone(1, #)", NONE, NONE).row("alone(2, #)", 3, 24);
        edge.town("days 14; shop a at 0 0 shelf 30 stock 13 sells 1; shop b at 0 0 shelf 30 stock 14 sells 1;");
        edge.row("alone(0, #)", 8192, 78 + 29 + 10).row("alone(1, #)", 0, 91);
        edge.town("days 14; shop a at 0 0 shelf 1 stock 0 sells 1;").row("alone(0, #)", 16383, 140);
    }

    private void aloneOfLikeOnes() {
        Edge edge = edges.term("of like ones the fewest, then the least number as bits (DAY 0 the lowest)", 30);
        edge.town("days 3;" + FREE + "shop a at 0 0 shelf 3 stock 2 sells 1; shop b at 0 0 shelf 3 stock 3 sells 1;"
            + "shop c at 0 0 shelf 2 stock 2 sells 1;");
        edge.row("alone(0, #)", 1, 0).row("alone(1, #)", 0, 0).row("alone(2, #)", 2, 0);
        // days 0 and 2, 1 and 2, 1 and 3 would do
        edge.town("days 4;" + FREE + "shop a at 0 0 shelf 2 stock 1 sells 1;").row("alone(0, #)", 5, 0);
        edge.town("days 5;" + FREE + "shop a at 0 0 shelf 2 stock 1 sells 1;").row("alone(0, #)", 10, 0);
        // days 0, 2, 3 and 5 cost as much as 1, 4 and 5, which end no earlier
        edge.town("days 7; truck 7 fixed 0 mile 0; hold 2; lost 5; shop a at 0 1 shelf 4 stock 3 sells 3 1 1 1 3;");
        edge.row("alone(0, #)", 50, 16);
    }

    private void aloneThatIsNone() {
        Edge edge = edges.promise(30, "NONE if there is none such, it always has LOST something, for another what.");
        edge.town("days 2; shop a at 1 0 shelf 5 stock 5 sells 5; shop b at 1 0 shelf 5 stock 5 sells 0 5;"
            + "shop c at 1 0 shelf 5 stock 5 sells 0 6;").does("visit(0, 0)");
        edge.stays("alone(0, 0)", 2).stays("alone(1, 0)", 0).stays("alone(2, 0)", NONE).stays("alone(2, 1)", NONE);
        edge.stays("alone(3, 0)", NONE).stays("alone(-1, 0)", NONE).stays("alone(0, 2)", NONE).stays("alone(0, -1)", NONE);
        edge.stays("alone(" + Edge.MOST + ", 0)", NONE).stays("alone(0, " + Edge.LEAST + ")", NONE);
        edge.does("rush(1, 1, 1)").stays("alone(1, 0)", NONE).does("undo()").stays("alone(1, 0)", 0);
        edge.anew().stays("alone(0, 0)", NONE).stays("alone(0, 1)", NONE);
    }

    private void everySteps() {
        Edge edge = edges.promise(31, "every p-th DAY from DAY f on (p 1 .. 7, f 0 .. p - 1), by p and f of least COST, "
            + "of like ones the greatest p, then the least f");
        edge.town("days 7; shop a at 0 0 shelf 9 stock 6 sells 1;").row("every(0, #)", 7, 6, 15 + 8 + 10);
        edge.town("days 3; truck 60 fixed 0; shop a at 0 0 shelf 5 stock 0 sells 5;").row("every(0, #)", 1, 0, 0);
        edge.town("days 14;" + FREE + "shop a at 0 0 shelf 2 stock 2 sells 1;").row("every(0, #)", 2, 0, 0);
        edge.town("days 14; truck 60 fixed 1; shop a at 0 0 shelf 2 stock 2 sells 1;").row("every(0, #)", 2, 0, 6 + 7);
        edge.town("days 3;" + FREE + "shop a at 0 0 shelf 9 stock 9 sells 1;").row("every(0, #)", 7, 0, 0);
        edge.town("days 1; shop a at 0 0 shelf 5 stock 4 sells 0;").row("every(0, #)", 7, 1, 4);
        edge.town("days 14;" + FREE + "shop a at 0 0 shelf 7 stock 0 sells 1;").row("every(0, #)", 7, 0, 0);
        edge.town("days 14;" + FREE + "shop a at 0 0 shelf 6 stock 0 sells 1;").row("every(0, #)", 6, 0, 0);
        edge.town("days 14;" + FREE + "shop a at 0 0 shelf 7 stock 6 sells 1;").row("every(0, #)", 7, 0, 0);
        edge.town("days 14; truck 60 fixed 2 mile 0; hold 0;shop a at 0 0 shelf 7 stock 6 sells 1;");
        edge.row("every(0, #)", 7, 0, 4);
        // day 7 alone would do for 10, but an f of 7 is none
        edge.town("days 14; hold 0; lost 99; shop a at 0 0 shelf 9 stock 7 sells 1;").row("every(0, #)", 7, 0, 20);
    }

    private void everyThatIsNone() {
        Edge edge = edges.promise(31, "what 0: p, 1: f, 2: COST. NONE if there is none such, for another what.");
        edge.town("days 2; lost 1; shop a at 9 9 shelf 5 stock 0 sells 30;").does("visit(0, 0)");
        edge.row("every(0, #)", 7, 2, 60, NONE).stays("every(0, -1)", NONE);
        edge.stays("every(1, 0)", NONE).stays("every(-1, 0)", NONE).stays("every(" + Edge.MOST + ", 0)", NONE);
        edge.stays("every(0, " + Edge.MOST + ")", NONE).stays("every(0, " + Edge.LEAST + ")", NONE);
        edge.anew().stays("every(0, 0)", NONE).stays("every(0, 2)", NONE);
    }

    private void joint() {
        Edge edge = edges.term("of like ones the fewest DAYS, then the least number as bits.", 32);
        edge.town("days 3;" + FREE + "shop a at 0 0 shelf 3 stock 2 sells 1;").row("joint(#)", 1, 0, NONE);
        edge.town("days 3;" + FREE + "shop a at 0 0 shelf 3 stock 3 sells 1;").row("joint(#)", 0, 0, NONE);
        edge.town("days 3;" + FREE + "shop a at 0 0 shelf 2 stock 2 sells 1;").row("joint(#)", 2, 0, NONE);
        edge.town("days 14;" + FREE + "shop a at 0 0 shelf 1 stock 0 sells 1;").row("joint(#)", 16383, 0, NONE);
        edge.town("days 14; lost 99; shop a at 0 0 shelf 30 stock 13 sells 1;").row("joint(#)", 8192, 117, NONE);
        edge.town("days 2; lost 0; shop a at 1 0 shelf 5 stock 5 sells 30;").row("joint(#)", 0, 0, NONE);
        // days 0 and 2 cost 3 and 13 for stocks; day 3 alone is fewer, but costs 1 and 9, and 8 for what is lost
        edge.town("days 4; truck 11 fixed 0 mile 0; hold 1; lost 4; shop a at 1 1 shelf 3 stock 2 sells 2 1 1;"
            + "shop b at 1 0 shelf 5 stock 4 sells 2 0 1 1;").row("joint(#)", 5, 16, NONE);
        // days 0, 1 and 6 cost as much as 2 and 6
        edge.town("days 7; truck 9 fixed 3 mile 0; hold 1; lost 5; shop a at 0 0 shelf 1 stock 0 sells 3 0;"
            + "shop b at 2 1 shelf 5 stock 4 sells 0 2 3 0 1;").row("joint(#)", 4 + 64, 50 + 15 + 6, NONE);
    }

    private void jointThatIsNone() {
        Edge edge = edges.promise(32, "JOINT what 0: its DAYS (bits), 1: its COST. NONE for another what.");
        edge.anew().row("joint(#)", 0, 0, NONE).stays("joint(-1)", NONE);
        edge.town(RunTest.TOWN).does("visit(0, 1)").row("joint(#)", 5, 51, NONE).stays("joint(-1)", NONE);
        edge.stays("joint(" + Edge.MOST + ")", NONE).stays("joint(" + Edge.LEAST + ")", NONE);
    }

    private void ruleOfLess() {
        Edge edge = edges.term("if there is a SHOP that has less in the morning than it is ASKED for on that DAY", 34);
        edge.town("days 2; shop a at 0 0 shelf 4 stock 2 sells 2;").due("rule(0)", 1);
        plan(edge, 2).town("days 2; shop a at 0 0 shelf 4 stock 2 sells 3;").due("rule(0)", 2);
        plan(edge, 3).town("days 2; shop a at 0 0 shelf 4 stock 4 sells 2;").due("rule(13)", 0).due("about(8)", 1);
        plan(edge, 0);
    }

    /** a is short on day 0, b has just what it is asked for on days 0 and 1. */
    private void ruleOfAllThatHaveLess() {
        Edge edge = edges.term("all SHOPS are VISITED that have less than they are ASKED for on it and the n DAYS behind "
            + "together (DAYS beyond the last one ask for nothing); else none.", 34);
        String a = "days 4; shop a at 0 0 shelf 9 stock 0 sells 1;";
        edge.town(a + "shop b at 0 0 shelf 9 stock 4 sells 2;").due("rule(1)", 2);
        plan(edge, 1, 4).due("rule(2)", 2);
        plan(edge, 1, 1).due("rule(0)", 2);
        plan(edge, 1, 4).town(a + "shop b at 0 0 shelf 9 stock 8 sells 2;").due("rule(3)", 1);
        plan(edge, 1, 0).due("rule(13)", 1);
        plan(edge, 1, 0).town(a + "shop b at 0 0 shelf 9 stock 7 sells 2;").due("rule(2)", 2);
        plan(edge, 1, 8).due("rule(3)", 2);
        plan(edge, 1, 1).due("rule(13)", 2);
        plan(edge, 1, 1);
        edge.town("days 3; shop a at 0 0 shelf 3 stock 3 sells 2 2 0; shop b at 0 0 shelf 3 stock 0 sells 0 0 1;");
        plan(edge.due("rule(0)", 2), 2, 4);
        plan(edge.due("rule(1)", 2), 2, 2).due("of(0, 3)", 0);
        // on day 13 b is short, and a has just what it is asked for
        edge.town("days 14; shop a at 0 0 shelf 60 stock 14 sells 1; shop b at 0 0 shelf 60 stock 13 sells 1;");
        plan(edge.due("rule(0)", 1), 0, 8192).due("rule(1)", 1);
        plan(edge.due("rule(13)", 1), 0, 8192);
    }

    private void ruleOfAnotherN() {
        Edge edge = edges.promise(34, "RULE by n (0 .. 13) DAYS ahead: how many VISITS; NONE for another n. (An ACT.)");
        edge.town(RunTest.TOWN).does("visit(0, 0)").stays("rule(-1)", NONE).stays("rule(14)", NONE);
        edge.stays("rule(" + Edge.MOST + ")", NONE).stays("rule(" + Edge.LEAST + ")", NONE).stays("about(8)", 1);
        plan(edge, 1, 0).due("rule(0)", 3);
        plan(edge, 4, 5).due("rule(13)", 4);
        plan(edge, 5, 5).due("about(8)", 3).due("rule(13)", 4).due("about(8)", 4);
        edge.does("undo()", "undo()");
        plan(edge, 4, 5).does("undo()");
        plan(edge, 1, 0).anew().due("rule(13)", 0).due("about(8)", 1).stays("rule(14)", NONE);
    }

    private void moves() {
        Edge edge = edges.term("MOVE: of a VISIT to the DAY ahead or behind (on which that SHOP is not VISITED).", 35);
        // what is lost falls by each day that the visit comes earlier: day 0 has none ahead, a visited day stops it
        edge.town("days 4;" + FREE + "shop a at 0 0 shelf 9 stock 0 sells 1;").does("visit(0, 0)");
        edge.stays("better(40)", 0).does("visit(0, 0)", "visit(0, 3)").due("better(40)", 3);
        plan(edge, 1).does("clear()", "visit(0, 0)", "visit(0, 1)").stays("better(40)", 0);
        // what is kept falls by each day that the visit comes later: the last day has none behind
        edge.town("days 4; shop a at 0 0 shelf 9 stock 0 sells 0;").does("visit(0, 0)").due("better(40)", 3);
        plan(edge, 8).stays("better(40)", 0).does("visit(0, 2)").stays("better(40)", 0);
        plan(edge, 12);
        edge.town("days 1; shop a at 0 0 shelf 9 stock 0 sells 0;").does("visit(0, 0)").stays("better(40)", 0);
    }

    /** On day 1 it costs 10 + 14; ahead, where the shelf is full, 12; behind 10 + 13. */
    private void theFirstMove() {
        Edge edge = edges.term("BETTER: the first MOVE by SHOPS, then by DAYS, ahead before behind, by which COST is less, "
            + "is made, again and again, n times at most.", 35);
        edge.town("days 3; shop a at 0 0 shelf 5 stock 5 sells 1 0 0;").does("visit(0, 1)").due("cost(0)", 24);
        plan(edge.due("better(1)", 1), 1).due("cost(0)", 12).stays("better(1)", 0);
        edge.town("days 3; hold 0; shop a at 0 0 shelf 5 stock 4 sells 1;").does("visit(0, 1)").stays("better(40)", 0);
        edge.town(six("days 3;" + FREE, " at 0 0 shelf 9 stock 0 sells 1;")).does("visit(5, 2)", "visit(1, 2)", "visit(1, 1)");
        plan(edge.due("better(1)", 1), 0, 5, 0, 0, 0, 4);
        plan(edge.due("better(1)", 1), 0, 5, 0, 0, 0, 2);
        plan(edge.due("better(2)", 1), 0, 5, 0, 0, 0, 1).stays("better(2)", 0);
        edge.town("days 3; shop a at 0 0 shelf 5 stock 4 sells 0;").does("visit(0, 0)");
        plan(edge.due("better(1)", 1), 2).due("better(1)", 1).stays("better(1)", 0);
    }

    /** Each of six visits on the last of 14 days can come a day earlier 13 times, and 1 less is lost by each. */
    private void betterOfAnotherN() {
        Edge edge = edges.promise(35, "BETTER, n (1 .. 40) times at most: how many MOVES; NONE for another n. "
            + "(An ACT, if there was one.)");
        edge.town(six("days 14;" + FREE, " at 0 0 shelf 30 stock 0 sells 1;"));
        for (int shop = 0; shop < 6; shop++) {
            edge.does("visit(" + shop + ", 13)");
        }
        edge.stays("better(0)", NONE).stays("better(41)", NONE).stays("better(-1)", NONE);
        edge.stays("better(" + Edge.MOST + ")", NONE).stays("better(" + Edge.LEAST + ")", NONE);
        plan(edge.due("cost(0)", 78).due("better(40)", 40), 1, 1, 1, 4096, 8192, 8192).due("cost(0)", 38);
        plan(edge.due("about(8)", 7).due("better(1)", 1), 1, 1, 1, 2048, 8192, 8192).due("about(8)", 8);
        plan(edge.due("better(40)", 37), 1, 1, 1, 1, 1, 1).due("about(8)", 9).due("cost(0)", 0);
        edge.stays("better(40)", 0).stays("better(1)", 0).stays("better(41)", NONE);
        plan(edge.due("undo()", 1), 1, 1, 1, 2048, 8192, 8192);
        edge.anew().stays("better(1)", 0).stays("better(40)", 0).stays("better(41)", NONE).stays("better(0)", NONE);
    }

    private void theFirstTurn() {
        Edge edge = edges.term("TUNE: the first by SHOPS, then by DAYS, whose VISIT comes, or goes, where there is one, "
            + "by which COST is less, again and again, n times at most.", 36);
        edge.town("days 2;" + FREE + "shop a at 0 0 shelf 1 stock 0 sells 1; shop b at 0 0 shelf 1 stock 0 sells 1;");
        plan(edge.due("tune(1)", 1), 1, 0).due("tune(2)", 2);
        plan(edge, 3, 1).due("tune(1)", 1).stays("tune(1)", 0);
        plan(edge, 3, 3);
        edge.town("days 2; hold 0; shop a at 0 0 shelf 9 stock 8 sells 0; shop b at 0 0 shelf 9 stock 8 sells 0;");
        edge.does("visit(0, 0)", "visit(1, 1)");
        plan(edge.due("tune(1)", 1), 0, 2).due("tune(2)", 1).stays("tune(2)", 0);
        plan(edge, 0, 0);
        // just as dear with the visit as without: it neither comes nor goes
        edge.town("days 1; hold 0; lost 10; shop a at 0 0 shelf 9 stock 0 sells 1;").stays("tune(40)", 0);
        edge.does("visit(0, 0)").stays("tune(40)", 0).does("rush(0, 0, 1)").stays("tune(40)", 0).does("visit(0, 0)");
        plan(edge.due("tune(40)", 1), 1);
    }

    /** Each of 84 visits brings the one that else were lost. */
    private void tuneOfAnotherN() {
        Edge edge = edges.promise(36, "TUNE, n (1 .. 40) times at most: how many VISITS came or went; NONE for another n. "
            + "(An ACT, if there was one.)");
        edge.town(six("days 14;" + FREE, " at 0 0 shelf 1 stock 0 sells 1;"));
        edge.stays("tune(0)", NONE).stays("tune(41)", NONE).stays("tune(-1)", NONE);
        edge.stays("tune(" + Edge.MOST + ")", NONE).stays("tune(" + Edge.LEAST + ")", NONE);
        plan(edge.due("tune(40)", 40), 16383, 16383, 4095, 0, 0, 0).due("cost(0)", 44).due("about(8)", 1);
        plan(edge.due("tune(1)", 1), 16383, 16383, 8191, 0, 0, 0).due("tune(40)", 40).due("about(8)", 3);
        plan(edge, 16383, 16383, 16383, 16383, 16383, 2047).due("tune(40)", 3).due("about(8)", 4).due("cost(0)", 0);
        edge.stays("tune(40)", 0).stays("tune(1)", 0).stays("tune(41)", NONE);
        plan(edge.due("undo()", 1), 16383, 16383, 16383, 16383, 16383, 2047);
        edge.anew().stays("tune(1)", 0).stays("tune(40)", 0).stays("tune(41)", NONE).stays("tune(0)", NONE);
    }

    private static String shops(int days, int shops, String line) {
        return ("days " + days + ";" + six(FREE, line)).substring(0, ("days " + days + ";" + FREE).length()
            + shops * ("shop a" + line).length());
    }

    private void fourteenAtMost() {
        Edge edge = edges.term("LEAST PLAN: of all PLANS, if SHOPS times DAYS are 14 at most: that of least COST", 37);
        String line = " at 0 0 shelf 1 stock 0 sells 1;";
        plan(edge.town(shops(14, 1, line)).due("least()", 0), 16383);
        plan(edge.town(shops(7, 2, line)).due("least()", 0), 127, 127);
        plan(edge.town(shops(2, 6, line)).due("least()", 0), 3, 3, 3, 3, 3, 3).due("about(8)", 1);
        plan(edge.town(shops(4, 3, line)).due("least()", 0), 15, 15, 15);
        edge.town(shops(5, 3, line)).does("visit(0, 4)").stays("least()", NONE);
        plan(edge, 16, 0, 0).town(shops(8, 2, line)).stays("least()", NONE).stays("about(8)", 0);
        edge.town(shops(3, 5, line)).stays("least()", NONE).town(shops(14, 6, line)).stays("least()", NONE);
        edge.town(shops(14, 2, line)).stays("least()", NONE);
        edge.town("days 14;").due("least()", 0).due("about(8)", 1);
    }

    private void leastOfLikeOnes() {
        Edge edge = edges.term("of like ones the fewest VISITS, then the least number: bits, SHOP 0 the lowest DAYS.", 37);
        edge.town("days 3;" + FREE + "shop a at 0 0 shelf 3 stock 2 sells 1; shop b at 0 0 shelf 3 stock 3 sells 1;");
        edge.does("visit(0, 2)", "visit(1, 0)");
        plan(edge.due("least()", 0), 1, 0);
        // each visit costs as much as it saves
        edge.town("days 2; truck 1 fixed 5 mile 0; hold 0; lost 5; shop a at 0 0 shelf 1 stock 0 sells 1;"
            + "shop b at 0 0 shelf 1 stock 0 sells 1;").does("visit(1, 1)");
        plan(edge.due("least()", 20), 0, 0);
        edge.town("days 2; truck 1 fixed 0; hold 0; shop a at 0 0 shelf 1 stock 0 sells 0 1; shop b at 0 0 shelf 1 stock 0 "
            + "sells 0 1;");
        plan(edge.due("least()", 0), 1, 1);
        // b twice costs as much as b once, where what is lost costs as much as a round
        edge.town("days 4; truck 13 fixed 2 mile 0; hold 0; lost 1; shop a at 0 1 shelf 8 stock 4 sells 1 0 3 1;"
            + "shop b at 1 0 shelf 10 stock 1 sells 3;");
        plan(edge.due("least()", 4), 1, 1);
        // like ones with as many visits: 166 rather than 197; 77 rather than 141; 322 rather than 198, which has more
        edge.town("days 4; truck 8 fixed 2 mile 0; hold 1; lost 4; shop a at 2 0 shelf 3 stock 2 sells 1 2 2 1;"
            + "shop b at 1 0 shelf 2 stock 1 sells 0 1 1 2;");
        plan(edge.due("least()", 11), 6, 10);
        edge.town("days 4; truck 9 fixed 1 mile 0; hold 1; lost 2; shop a at 1 1 shelf 2 stock 1 sells 3 0 3 2;"
            + "shop b at 0 2 shelf 3 stock 3 sells 0 1 1 2;");
        plan(edge.due("least()", 14), 13, 4);
        edge.town("days 5; truck 9 fixed 1 mile 1; hold 2; lost 2; shop a at 1 1 shelf 2 stock 0 sells 0 2 3 0 0;"
            + "shop b at 2 0 shelf 4 stock 2 sells 3;");
        plan(edge.due("least()", 32), 2, 10);
    }

    private void leastThatIsNone() {
        Edge edge = edges.promise(37, "LEAST PLAN: its COST; NONE if SHOPS times DAYS are above 14. (An ACT.)");
        edge.town(RunTest.TOWN).does("visit(0, 1)").due("least()", 45).due("about(8)", 2).due("least()", 45);
        plan(edge, 4, 5).due("about(8)", 3).due("undo()", 1).due("undo()", 1);
        plan(edge, 2, 0);
        edge.town("shop a at 0 0 shelf 1 stock 0 sells 0; shop b at 0 0 shelf 1 stock 0 sells 0;"
            + "shop c at 0 0 shelf 1 stock 0 sells 0;").stays("least()", NONE);
        edge.anew().due("least()", 0).due("about(8)", 1);
    }

    /** Six shops, 14 days: what a visit on day 0 brings suffices for all of them. */
    private void theGreatestTown() {
        Edge edge = edges.term("shop (6 at most)", 27, 28, 29, 30, 31, 32, 34);
        edge.town(six("days 14;" + FREE, " at 0 0 shelf 14 stock 0 sells 1;")).due("cost(0)", 84).due("rule(13)", 6);
        plan(edge, 1, 1, 1, 1, 1, 1).due("rule(0)", 6);
        plan(edge, 1, 1, 1, 1, 1, 1).due("cost(0)", 0).due("truck(0)", 14).due("reach()", 199).due("scaled(300)", 168);
        edge.due("alone(5, 0)", 1).due("alone(5, 1)", 0).due("every(5, 0)", 7).due("every(5, 1)", 0).due("every(5, 2)", 0);
        edge.due("joint(0)", 1).due("joint(1)", 0).due("rounds(0)", 2).due("round(0, 0, 0)", 3).due("round(0, 1, 0)", 60);
        edge.due("savings(0, 1)", 6).due("peak(0)", 0).due("peak(1)", 84).due("chance(1, 20, 0, 1)", 0);
        edge.due("worth(5, 13)", 0).due("worth(5, 0)", -14).due("better(40)", 0).due("tune(40)", 0).due("least()", NONE);
        edge.due("visit(5, 13)", 1).due("load(5, 13)", 13).due("bears(5, 13)", 13).due("waits(5, 0)", NONE);
        edge.due("clear()", 7).due("cost(0)", 84).due("reach()", 99).due("scaled(99)", 0);
        edge.town(six("days 14;" + FREE, " at 0 0 shelf 60 stock 60 sells 1;")).due("rule(0)", 0).due("rule(13)", 0);
        edge.due("about(8)", 2).due("better(40)", 0).due("tune(40)", 0).due("joint(0)", 0).due("alone(5, 0)", 0);
    }

    static void all(Edges edges) {
        EdgesOfPlans of = new EdgesOfPlans(edges);
        of.theGreatestTown();
        of.byItself();
        of.nothingLost();
        of.aloneOfLikeOnes();
        of.aloneThatIsNone();
        of.everySteps();
        of.everyThatIsNone();
        of.joint();
        of.jointThatIsNone();
        of.ruleOfLess();
        of.ruleOfAllThatHaveLess();
        of.ruleOfAnotherN();
        of.moves();
        of.theFirstMove();
        of.betterOfAnotherN();
        of.theFirstTurn();
        of.tuneOfAnotherN();
        of.fourteenAtMost();
        of.leastOfLikeOnes();
        of.leastThatIsNone();
    }
}

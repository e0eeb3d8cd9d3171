/** Promises 1 to 4, 6 and 7: a new object, the tape, what is told of a text; and how often an object is called. */
final class EdgesOfTape {
    private static final int NONE = Edge.NONE;
    /** "hold 7;", "hold 3;", "lost 3;" and thirteen blanks each. */
    private static final String HOLD_7 = "feed(1752132708, 540490528, 538976288, 538976288, 538976288)";
    private static final String HOLD_3 = "feed(1752132708, 540228384, 538976288, 538976288, 538976288)";
    private static final String LOST_3 = "feed(1819243380, 540228384, 538976288, 538976288, 538976288)";
    private static final String BLANKS = "feed(538976288, 538976288, 538976288, 538976288, 538976288)";

    private final Edges edges;

    private EdgesOfTape(Edges edges) {
        this.edges = edges;
    }

    private void aNewObject() {
        Edge edge = edges.promise(1, "No SHOPS; 7 DAYS, a truck of 60.");
        edge.stays("about(0)", 0).stays("shop(0, 0)", NONE).stays("miles(1)", NONE).stays("miles(0)", 0);
        edge.stays("about(1)", 7).stays("rounds(6)", 0).stays("rounds(7)", NONE);
        edge.stays("about(2)", 60).stays("about(3)", 10).stays("about(4)", 1).stays("about(5)", 1).stays("about(6)", 20);
        edge.stays("about(7)", 0).stays("about(8)", 0).stays("about(9)", 0).stays("about(10)", 0).stays("about(11)", 0);
        edge.stays("cost(0)", 0).stays("reach()", 300).stays("truck(0)", 1).stays("joint(0)", 0).stays("joint(1)", 0);
        edge.stays("peak(0)", 0).stays("peak(1)", 0).stays("chance(1, 20, 20, 1)", 0).stays("undo()", 0);
        edge.stays("better(1)", 0).stays("tune(1)", 0).stays("clear()", 0);
        edge.due("least()", 0).due("rule(0)", 0).due("about(8)", 2);
    }

    private void theConstant() {
        edges.term("`NONE = -1`: There is none.", 1);
        edges.check.due("NONE", ShelfDrives.NONE, -1);
    }

    /** To tell the town takes six calls; the visit comes and goes 505 times, and the 512th call asks what it costs. */
    private void theLastCall() {
        Edge edge = edges.term("An object is used for at most 512 calls after it has been made", 33, 40);
        edge.town("days 1; shop a at 1 1 shelf 5 stock 0 sells 5;");
        for (int call = 7; call <= 511; call++) {
            edge.due("visit(0, 0)", call % 2);
        }
        edge.due("cost(0)", 10 + 4);
    }

    private void fed() {
        Edge edge = edges.promise(2, "Twenty bytes come behind those on the TAPE, of each number the highest first: "
            + "how many there are");
        edge.due(HOLD_7, 20).due("end(7)", 7).due(LOST_3, 27);
        edge.due("text()", 0).due("about(5)", 7).due("about(6)", 3);
        edge.anew().due("feed(-1, 0, 0, 0, 0)", 20).due("text()", NONE).due("fault(0)", 1).due("fault(1)", 0);
        edge.anew().due("feed(538976288, 538976288, 538976288, 538976288, 538976511)", 20);
        edge.due("text()", NONE).due("fault(0)", 1).due("fault(1)", 19);
    }

    private void fedTooMuch() {
        Edge edge = edges.promise(2, "NONE, and nothing comes, if there would be more than 800");
        edge.does(HOLD_7);
        for (int times = 2; times <= 40; times++) {
            edge.due(BLANKS, 20 * times);
        }
        edge.stays("feed(-1, -1, -1, -1, -1)", NONE).stays(HOLD_3, NONE).stays("about(9)", 800);
        edge.due("end(781)", 781).stays(HOLD_3, NONE).stays("about(9)", 781);
        edge.due("end(780)", 780).due(LOST_3, 800);
        edge.stays("feed(0, 0, 0, 0, 0)", NONE).due("text()", 0).due("about(5)", 7).due("about(6)", 3);
        edge.due(HOLD_3, 20).due("text()", 0).due("about(5)", 3);
    }

    private void ended() {
        Edge edge = edges.promise(3, "The TAPE has its first n bytes: n; NONE, doing nothing, if it has not so many, "
            + "or n is below 0.");
        edge.stays("end(0)", 0).stays("end(1)", NONE).stays("end(-1)", NONE);
        edge.does(HOLD_7).stays("end(20)", 20).stays("end(21)", NONE).stays("end(-1)", NONE);
        edge.stays("end(" + Edge.MOST + ")", NONE).stays("end(" + Edge.LEAST + ")", NONE).stays("about(9)", 20);
        edge.due("end(7)", 7).stays("end(8)", NONE).due("text()", 0).due("about(5)", 7);
        edge.does(HOLD_7).due("end(6)", 6).due("text()", NONE).due("fault(0)", 2).due("fault(1)", 6);
        edge.does(HOLD_7).due("end(0)", 0).due("about(9)", 0).due("text()", 0).due("about(5)", 1);
        edge.does(HOLD_7).due("end(0)", 0).stays("end(1)", NONE).does(HOLD_3).due("text()", 0).due("about(5)", 3);
        // what was behind the first n bytes is no more: no letter behind the digit, no longer word, no second digit
        edge.anew().puts("hold 7xyz").due("end(6)", 6).due("text()", NONE).due("fault(0)", 2).due("fault(1)", 6);
        edge.anew().puts("holdxyz 7;").due("end(4)", 4).due("text()", NONE).due("fault(0)", 2).due("fault(1)", 4);
        edge.anew().puts("hold 777;").due("end(7)", 7).due("text()", NONE).due("fault(0)", 4).due("fault(1)", 5);
        edge.anew().puts("hold 7;;").due("end(7)", 7).due("text()", 0).due("about(5)", 7);
    }

    private void endedAtTheMost() {
        Edge edge = edges.term("A TEXT has at most 800 bytes", 2, 3, 4);
        String whole = " ".repeat(793) + "hold 7;";
        edge.puts(whole).stays("end(800)", 800).stays("end(801)", NONE).due("text()", 0).due("about(5)", 7);
        edge.puts(whole).due("end(799)", 799).stays("end(800)", NONE).due("text()", NONE);
        edge.due("fault(0)", 2).due("fault(1)", 799).due("about(5)", 7);
        edge.anew().puts(" ".repeat(794) + "hold 7").due("text()", NONE).due("fault(0)", 2).due("fault(1)", 800);
        edge.anew().puts(" ".repeat(800)).due("text()", 0).due("fault(0)", 0);
        edge.puts("hold 3;".repeat(114) + "  ").due("text()", NONE).due("fault(0)", 2).due("fault(1)", 7);
    }

    private void readAndGone() {
        Edge edge = edges.promise(4, "The TAPE (empty then, also at a FAULT) is the TEXT (no VISITS, no ACTS are kept): "
            + "how many SHOPS");
        edge.reads("", 0).due("about(1)", 7).due("about(2)", 60).due("about(7)", 0).due("cost(0)", 0);
        edge.reads(" \n", 0).reads("days 1;", 0);
        edge.reads("shop a at 0 0 shelf 1 stock 0 sells 0;", 1).stays("undo()", 0).stays("end(1)", NONE);
        edge.town("shop a at 0 0 shelf 1 stock 0 sells 0;").does("visit(0, 6)", "rush(0, 0, 9)", "text()");
        edge.due("about(0)", 0).due("about(7)", 0).stays("undo()", 0);
        edge.town("shop a at 0 0 shelf 5 stock 5 sells 1;").does("visit(0, 6)", "rush(0, 0, 9)");
        edge.puts("shop a at 0 0 shelf 5 stock 5 sells 1;").due("text()", 1).due("shop(0, 4)", 0).due("shop(0, 10)", 1);
        edge.due("about(7)", 0).stays("undo()", 0).due("cost(0)", 4 + 3 + 2 + 1 + 20 + 20);
        // nothing of a greater text is left: no loads, no days
        edge.town("days 14; shop a at 9 9 shelf 50 stock 0 sells 9; shop b at 9 9 shelf 40 stock 0 sells 9;");
        edge.does("visit(0, 13)", "visit(1, 13)").due("peak(1)", 90).puts("hold 0; shop a at 0 0 shelf 5 stock 5 sells 0;");
        edge.due("text()", 1).stays("truck(0)", 1).stays("peak(1)", 0).stays("cost(0)", 0).stays("load(1, 13)", NONE);
        edge.stays("load(0, 13)", NONE).stays("shop(0, 23)", NONE).stays("miles(2)", NONE);
    }

    private void readWithAFault() {
        Edge edge = edges.promise(4, "NONE: a FAULT (all else stays)");
        edge.faults("days 15;", 4, 5).due("undo()", 1).due("undo()", 1).due("undo()", 1).stays("undo()", 0);
        edge.faults("days 1; truck 5; shop z at 0 0 shelf 5 stock 5 sells 9; rush z 1 9;", 4, 63);
        edge.due("about(1)", 3).due("about(2)", 9).due("about(0)", 2);
        edge.puts("days 1;").due("text()", 0).due("about(2)", 60).due("fault(0)", 0);
    }

    private void theLatestFault() {
        Edge edge = edges.promise(5, "Of the latest text() what 0: its FAULT (0: without; ahead of any, too), "
            + "1: its place (NONE likewise).");
        edge.stays("fault(0)", 0).stays("fault(1)", NONE);
        edge.puts("days 15;").stays("fault(0)", 0).due("text()", NONE).stays("fault(0)", 4).stays("fault(1)", 5);
        edge.puts("7").stays("fault(0)", 4).due("text()", NONE).stays("fault(0)", 2).stays("fault(1)", 0);
        edge.due("text()", 0).stays("fault(0)", 0).stays("fault(1)", NONE);
    }

    private void noSuchFault() {
        Edge edge = edges.promise(5, "NONE for another what.");
        edge.puts("days 15;").does("text()").stays("fault(1)", 5).stays("fault(2)", NONE).stays("fault(-1)", NONE);
        edge.stays("fault(" + Edge.MOST + ")", NONE).stays("fault(" + Edge.LEAST + ")", NONE);
    }

    private void about() {
        Edge edge = edges.promise(6, "8: ACTS that can be undone, 9: bytes on the TAPE, 10, 11: the depot's PLACE. "
            + "NONE for another what.");
        edge.town("days 5; truck 42 fixed 8 mile 3; hold 4; lost 33; depot 29 30;"
            + "shop a at 1 2 shelf 9 stock 3 sells 1; rush a 0 2;");
        edge.does("visit(0, 0)", "rush(0, 1, 2)", "visit(0, 1)", BLANKS, "end(13)");
        edge.row("about(#)", 1, 5, 42, 8, 3, 4, 33, 2, 3, 13, 29, 30, NONE, NONE);
        edge.stays("about(-1)", NONE).stays("about(" + Edge.MOST + ")", NONE).stays("about(" + Edge.LEAST + ")", NONE);
        edge.does("undo()", "undo()").stays("about(7)", 1).stays("about(8)", 1);
    }

    private void shop() {
        Edge edge = edges.promise(7, "10 + d: what it is ASKED for on a DAY. NONE if there is none such, "
            + "for another what.");
        edge.town("days 3; depot 30 0; shop a at 0 30 shelf 9 stock 3 sells 1 2; shop b at 30 0 shelf 60 stock 0 sells 0;"
            + "rush a 2 60; rush a 2 7;");
        edge.does("visit(0, 0)", "visit(0, 2)");
        edge.row("shop(0, #)", 0, 30, 9, 3, 5, 60, NONE, NONE, NONE, NONE, 1, 2, 68, NONE, NONE);
        edge.row("shop(1, #)", 30, 0, 60, 0, 0, 0, NONE, NONE, NONE, NONE, 0, 0, 0, NONE);
        edge.stays("shop(0, -1)", NONE).stays("shop(0, " + Edge.MOST + ")", NONE);
        edge.stays("shop(0, " + Edge.LEAST + ")", NONE).stays("shop(2, 0)", NONE).stays("shop(-1, 0)", NONE);
        edge.stays("shop(2, 10)", NONE).stays("shop(" + Edge.MOST + ", 0)", NONE);
        edge.stays("shop(" + Edge.LEAST + ", 10)", NONE);
        edge.town("days 14; shop a at 0 0 shelf 9 stock 3 sells 1 2 3 4 5 6 7;").due("shop(0, 23)", 7);
        edge.stays("shop(0, 24)", NONE).does("visit(0, 13)").stays("shop(0, 4)", 8192);
        edge.town("days 1; shop a at 0 0 shelf 9 stock 3 sells 5 6;").stays("shop(0, 10)", 5).stays("shop(0, 11)", NONE);
    }

    static void all(Edges edges) {
        EdgesOfTape of = new EdgesOfTape(edges);
        of.aNewObject();
        of.theConstant();
        of.theLastCall();
        of.fed();
        of.fedTooMuch();
        of.ended();
        of.endedAtTheMost();
        of.readAndGone();
        of.readWithAFault();
        of.theLatestFault();
        of.noSuchFault();
        of.about();
        of.shop();
    }
}

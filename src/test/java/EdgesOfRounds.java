/** Promises 16 to 23: ROUNDS, their WAYS, SAVINGS, SHARES. */
final class EdgesOfRounds {
    private static final int NONE = Edge.NONE;

    private final Edges edges;

    private EdgesOfRounds(Edges edges) {
        this.edges = edges;
    }

    /** Shops a, b, .. that lack so much, in a row of places (first, second number), all of them visited on day 0. */
    private static Edge lacking(Edge edge, String ahead, int[] places, int... lacks) {
        StringBuilder text = new StringBuilder(ahead);
        for (int shop = 0; shop < lacks.length; shop++) {
            text.append("shop ").append((char) ('a' + shop)).append(" at ").append(places[2 * shop]).append(' ');
            text.append(places[2 * shop + 1]).append(" shelf ").append(lacks[shop]).append(" stock 0 sells 0;");
        }
        edge.town(text.toString());
        for (int shop = 0; shop < lacks.length; shop++) {
            edge.does("visit(" + shop + ", 0)");
        }
        return edge;
    }

    private static Edge atDepot(Edge edge, String ahead, int... lacks) {
        return lacking(edge, ahead, new int[12], lacks);
    }

    private static void sets(Edge edge, int... sets) {
        edge.stays("rounds(0)", sets.length);
        for (int k = 0; k < sets.length; k++) {
            edge.stays("round(0, " + k + ", 0)", sets[k]);
        }
        edge.stays("round(0, " + sets.length + ", 0)", NONE).stays("round(0, -1, 0)", NONE);
    }

    private void loadsAboveNothing() {
        Edge edge = edges.term("ROUNDS of a DAY: SHOPS with a LOAD above 0, parted into sets", 16, 17, 25);
        edge.town("days 2; shop a at 1 0 shelf 5 stock 5 sells 1; shop b at 2 0 shelf 5 stock 4 sells 0;"
            + "shop c at 3 0 shelf 5 stock 0 sells 0;");
        sets(edge);
        sets(edge.does("visit(0, 0)"));
        edge.stays("costOf(0)", 0);
        sets(edge.does("visit(1, 0)"), 2);
        edge.stays("costOf(0)", 14).does("visit(0, 1)", "visit(1, 1)").stays("round(1, 0, 0)", 1).stays("rounds(1)", 1);
    }

    private void noMoreThanTheTruckCarries() {
        Edge edge = edges.term("each with LOADS of no more together than the truck carries", 16, 17, 21);
        sets(atDepot(edge, "truck 10;", 5, 5), 3);
        sets(atDepot(edge, "truck 9;", 5, 5), 1, 2);
        sets(atDepot(edge, "truck 99;", 33, 33, 33), 7);
        sets(atDepot(edge, "truck 98;", 33, 33, 33), 1, 6);
        sets(atDepot(edge, "truck 9;", 5, 5, 5, 5, 5, 5), 1, 2, 4, 8, 16, 32);
        sets(atDepot(edge, "truck 30;", 5, 5, 5, 5, 5, 5), 63);
        sets(atDepot(edge, "truck 29;", 5, 5, 5, 5, 5, 5), 1, 62);
        sets(atDepot(edge, "truck 99;", 99, 99, 99, 99, 99, 99), 1, 2, 4, 8, 16, 32);
    }

    /** a, b at 10 0 and c, d at 0 10 lack 4, 5, 6, 5: three rounds have 60 miles, the only two (a c, b d) 80. */
    private void costLeastThenFewest() {
        Edge edge = edges.term("parted so that they cost least, of like ones the fewest", 16, 17, 25);
        int[] places = {10, 0, 10, 0, 0, 10, 0, 10};
        lacking(edge, "truck 10 fixed 19;", places, 4, 5, 6, 5).stays("costOf(0)", 117);
        sets(edge, 3, 4, 8);
        sets(lacking(edge, "truck 10 fixed 20;", places, 4, 5, 6, 5), 5, 10);
        edge.stays("costOf(0)", 120);
        sets(lacking(edge, "truck 10 fixed 21;", places, 4, 5, 6, 5), 5, 10);
        edge.stays("costOf(0)", 122);
        sets(atDepot(edge, "truck 10 fixed 0 mile 0;", 4, 5, 6, 5), 5, 10);
        sets(atDepot(edge, "truck 10 fixed 0 mile 0;", 5, 5), 3);
    }

    private void theFirstAsARow() {
        Edge edge = edges.term("of these the first as a row: the set with the least SHOP as bits (the least number first), "
            + "then the set with the least SHOP of those that are left, and so on", 17);
        sets(atDepot(edge, "truck 10;", 5, 5, 5), 1, 6);
        sets(atDepot(edge, "truck 10;", 5, 5, 5, 5), 3, 12);
        sets(atDepot(edge, "truck 10;", 5, 5, 5, 5, 5), 1, 6, 24);
        sets(atDepot(edge, "truck 10;", 5, 5, 5, 5, 5, 5), 3, 12, 48);
        sets(atDepot(edge, "truck 10;", 5, 6, 5), 5, 2);
        sets(atDepot(edge, "truck 10;", 4, 5, 6, 5), 5, 10);
        sets(atDepot(edge, "truck 10;", 9, 1, 9, 1), 3, 12);
        sets(atDepot(edge, "truck 10;", 9, 9, 1, 1), 5, 10);
    }

    /** Shops at 3 0, 1 0 and 2 0: a, c, b and three other rows have 6 miles; a, b, c has 8. */
    private void theLeastWay() {
        Edge edge = edges.term("the least MILES, of like ones the first as a row of SHOPS", 17, 18, 19);
        lacking(edge, "", new int[] {3, 0, 1, 0, 2, 0}, 5, 6, 7).row("round(0, 0, 1#)", 0, 2, 1, NONE);
        edge.stays("round(0, 0, 1)", 6).stays("aboard(0, 0, -1)", 18).row("aboard(0, 0, #)", 13, 6, 0, NONE);
        lacking(edge, "", new int[] {0, 0, 1, 0, 0, 0}, 1, 1, 1).row("round(0, 0, 1#)", 0, 1, 2, NONE);
        lacking(edge, "depot 15 15;", new int[] {15, 30, 15, 0, 15, 16, 15, 14}, 1, 1, 1, 1);
        edge.stays("round(0, 0, 1)", 60).row("round(0, 0, 1#)", 0, 2, 1, 3, NONE);
        atDepot(edge, "", 1, 1, 1, 1, 1, 1).row("round(0, 0, 1#)", 0, 1, 2, 3, 4, 5, NONE);
    }

    private void howManyRounds() {
        Edge edge = edges.promise(16, "How many ROUNDS a DAY has; NONE if there is no such DAY.");
        edge.town("days 14; shop a at 1 0 shelf 5 stock 5 sells 1;").does("visit(0, 0)", "visit(0, 13)");
        edge.stays("rounds(0)", 0).stays("rounds(1)", 0).stays("rounds(13)", 1).stays("rounds(14)", NONE);
        edge.stays("rounds(-1)", NONE).stays("rounds(" + Edge.MOST + ")", NONE).stays("rounds(" + Edge.LEAST + ")", NONE);
        edge.town("days 1;").stays("rounds(0)", 0).stays("rounds(1)", NONE);
    }

    private void ofARound() {
        Edge edge = edges.promise(17, "10 + i: the i-th SHOP on its WAY. NONE if there is none such, for another what.");
        lacking(edge, "days 2; truck 10 fixed 7 mile 3;", new int[] {1, 0, 0, 3, 1, 3}, 5, 5, 4);
        edge.row("round(0, 0, #)", 1, 2, 5, 7 + 6, NONE, NONE, NONE, NONE, NONE, NONE, 0, NONE);
        edge.row("round(0, 1, #)", 6, 8, 9, 7 + 24, NONE, NONE, NONE, NONE, NONE, NONE, 1, 2, NONE);
        edge.stays("round(0, 2, 0)", NONE).stays("round(0, -1, 0)", NONE).stays("round(0, 0, -1)", NONE);
        edge.stays("round(0, 0, " + Edge.MOST + ")", NONE).stays("round(0, 0, " + Edge.LEAST + ")", NONE);
        edge.stays("round(0, " + Edge.MOST + ", 0)", NONE).stays("round(0, " + Edge.LEAST + ", 0)", NONE);
        edge.stays("round(1, 0, 0)", NONE).stays("round(2, 0, 0)", NONE).stays("round(-1, 0, 0)", NONE);
        atDepot(edge, "truck 9;", 5, 5, 5, 5, 5, 5).stays("round(0, 5, 10)", 5).stays("round(0, 6, 10)", NONE);
        atDepot(edge, "", 5, 5, 5, 5, 5, 5).stays("round(0, 0, 15)", 5).stays("round(0, 0, 16)", NONE);
    }

    private void aboard() {
        Edge edge = edges.promise(18, "(i NONE: as it sets out); NONE if there is none such.");
        lacking(edge, "days 2; truck 10;", new int[] {1, 0, 0, 3, 1, 3}, 5, 6, 4);
        edge.stays("aboard(0, 0, -1)", 5).stays("aboard(0, 0, 0)", 0).stays("aboard(0, 0, 1)", NONE);
        edge.stays("aboard(0, 1, -1)", 10).row("aboard(0, 1, #)", 4, 0, NONE).stays("aboard(0, 1, -2)", NONE);
        edge.stays("aboard(0, 2, -1)", NONE).stays("aboard(0, -1, -1)", NONE).stays("aboard(1, 0, -1)", NONE);
        edge.stays("aboard(2, 0, -1)", NONE).stays("aboard(-1, 0, -1)", NONE);
        edge.stays("aboard(0, 0, " + Edge.MOST + ")", NONE).stays("aboard(0, 0, " + Edge.LEAST + ")", NONE);
        atDepot(edge, "", 1, 2, 3, 4, 5, 6).stays("aboard(0, 0, -1)", 21).row("aboard(0, 0, #)", 20, 18, 15, 11, 6, 0, NONE);
    }

    private void miles() {
        Edge edge = edges.promise(19, "(bits; what the truck carries is no matter; 0: 0); NONE if one is not there.");
        lacking(edge, "truck 1;", new int[] {1, 0, 0, 3, 1, 3}, 1, 1, 1).row("miles(#)", 0, 2, 6, 8, 8, 8, 8, 8, NONE, NONE);
        edge.stays("miles(-1)", NONE).stays("miles(" + Edge.MOST + ")", NONE).stays("miles(" + Edge.LEAST + ")", NONE);
        int[] corners = {0, 0, 30, 0, 30, 30, 0, 30, 15, 15, 30, 30};
        lacking(edge, "truck 1;", corners, 1, 1, 1, 1, 1, 1).stays("miles(63)", 150).stays("miles(64)", NONE);
        edge.stays("miles(65)", NONE).stays("miles(32)", 120).stays("miles(1)", 0);
        edge.anew().stays("miles(0)", 0).stays("miles(1)", NONE);
    }

    private void together() {
        Edge edge = edges.promise(20, "-1000000 if there are none such, one twice.");
        lacking(edge, "truck 5 fixed 4 mile 2;", new int[] {1, 0, 0, 3, 1, 3}, 5, 5, 5);
        edge.stays("together(0, 1)", 4).stays("together(1, 0)", 4).stays("together(0, 2)", 8).stays("together(2, 1)", 16);
        int[][] none = {{0, 0}, {2, 2}, {0, 3}, {3, 0}, {-1, 0}, {0, -1}, {3, 3}, {Edge.MOST, 0}, {1, Edge.LEAST}};
        for (int[] pair : none) {
            edge.stays("together(" + pair[0] + ", " + pair[1] + ")", Edge.NOT_THERE);
        }
        lacking(edge, "truck 5 fixed 0;", new int[] {1, 0, 0, 3}, 5, 5).stays("together(0, 1)", 0);
        edge.anew().stays("together(0, 1)", Edge.NOT_THERE);
    }

    private static void saved(Edge edge, int cost, int rounds) {
        edge.stays("savings(0, 0)", cost).stays("savings(0, 1)", rounds);
    }

    private void savingsThatFit() {
        Edge edge = edges.term("again and again two ROUNDS whose LOADS fit on one truck are made one", 21);
        saved(atDepot(edge, "truck 10 fixed 3;", 5, 5), 3, 1);
        saved(atDepot(edge, "truck 9 fixed 3;", 5, 5), 6, 2);
        saved(atDepot(edge, "truck 15 fixed 3;", 5, 5, 5), 3, 1);
        saved(atDepot(edge, "truck 14 fixed 3;", 5, 5, 5), 6, 2);
        saved(atDepot(edge, "truck 30 fixed 3;", 5, 5, 5, 5, 5, 5), 3, 1);
        saved(atDepot(edge, "truck 29 fixed 3;", 5, 5, 5, 5, 5, 5), 6, 2);
        saved(atDepot(edge, "truck 9 fixed 3;", 5, 5, 5, 5, 5, 5), 18, 6);
    }

    private void savingsAgainAndAgain() {
        Edge edge = edges.term("SAVINGS of a DAY: each SHOP with a LOAD above 0 has a ROUND of its own", 21);
        saved(atDepot(edge, "truck 60 fixed 1;", 1), 1, 1);
        saved(atDepot(edge, "truck 60 fixed 0;", 1, 1, 1), 0, 3);
        saved(atDepot(edge, "truck 60 fixed 1;", 1, 1, 1), 1, 1);
        saved(edge.town("days 1; shop a at 1 0 shelf 5 stock 5 sells 0;").does("visit(0, 0)"), 0, 0);
        // a and b save 25 first, then c and d, then both 5, if they fit
        int[] places = {10, 0, 10, 0, 0, 10, 0, 10};
        saved(lacking(edge, "truck 20 fixed 5;", places, 5, 5, 5, 5), 45, 1);
        saved(lacking(edge, "truck 19 fixed 5;", places, 5, 5, 5, 5), 50, 2);
        saved(lacking(edge, "truck 9 fixed 5;", places, 5, 5, 5, 5), 100, 4);
        saved(lacking(edge, "truck 10 fixed 5;", places, 5, 5, 5, 6), 75, 3);
    }

    private void savingsThatCostLess() {
        Edge edge = edges.term("those by which it costs least in all, if that is less than ahead", 21);
        saved(lacking(edge, "truck 60 fixed 0;", new int[] {1, 0, 0, 3}, 5, 5), 8, 2);
        saved(lacking(edge, "truck 60 fixed 1;", new int[] {1, 0, 0, 3}, 5, 5), 9, 1);
        saved(atDepot(edge, "truck 60 fixed 0 mile 0;", 5, 5), 0, 2);
        // b and c lie together: to make them one saves 6 of 16, a and b nothing, a and c 2
        saved(lacking(edge, "truck 10 fixed 0;", new int[] {1, 0, 0, 3, 1, 3}, 5, 5, 5), 10, 2);
    }

    /** A truck of 14: with a, b of 5 made one, c and d of 9 stay alone; with a, b of 5 and 9 made one, c and d fit. */
    private void savingsOfTheLeastShops() {
        Edge edge = edges.term("of like ones those with the least SHOPS (of the one, then of the other one; "
            + "the one has the least of both)", 21);
        saved(atDepot(edge, "truck 14 fixed 6;", 5, 5, 9, 9), 18, 3);
        saved(atDepot(edge, "truck 14 fixed 6;", 5, 9, 5, 9), 12, 2);
        saved(atDepot(edge, "truck 14 fixed 6;", 9, 5, 5, 9), 12, 2);
        saved(atDepot(edge, "truck 14 fixed 6;", 9, 9, 5, 5), 12, 2);
    }

    private void savingsThatAreNone() {
        Edge edge = edges.promise(21, "SAVINGS of a DAY what 0: what its ROUNDS cost then, 1: how many these are. "
            + "NONE if there is no such DAY, for another what.");
        atDepot(edge, "days 2; truck 10 fixed 3;", 5, 5);
        edge.stays("savings(1, 0)", 0).stays("savings(1, 1)", 0).stays("savings(2, 0)", NONE).stays("savings(-1, 0)", NONE);
        edge.stays("savings(0, 2)", NONE).stays("savings(0, -1)", NONE).stays("savings(" + Edge.MOST + ", 1)", NONE);
        edge.stays("savings(" + Edge.LEAST + ", 1)", NONE).stays("savings(0, " + Edge.MOST + ")", NONE);
        edge.anew().stays("savings(6, 1)", 0).stays("savings(7, 1)", NONE);
    }

    /** Three that lack 5 each, two on a truck: 10, 10, 20; the mean of 10, 0, 10 (and so on) is 20 / 3. */
    private void shareInLowestTerms() {
        Edge edge = edges.promise(22, "in lowest terms what 0: above, 1: below (0, 1 without a LOAD)");
        atDepot(edge, "days 2; truck 10 fixed 10 mile 0;", 5, 5, 5);
        for (int shop = 0; shop < 3; shop++) {
            edge.row("share(" + shop + ", 0, #)", 20, 3).row("share(" + shop + ", 1, #)", 0, 1);
        }
        atDepot(edge, "truck 10 fixed 10 mile 0;", 5, 5).row("share(1, 0, #)", 5, 1);
        atDepot(edge, "truck 9 fixed 10 mile 0;", 5, 5).row("share(1, 0, #)", 10, 1);
        atDepot(edge, "truck 60 fixed 10 mile 0;", 5, 5, 5, 5, 5, 5).row("share(5, 0, #)", 5, 3);
        atDepot(edge, "truck 60 fixed 1 mile 0;", 5, 5, 5, 5, 5, 5).row("share(5, 0, #)", 1, 6);
        atDepot(edge, "truck 60 fixed 0 mile 0;", 5, 5, 5).row("share(1, 0, #)", 0, 1);
        edge.town("days 1; shop a at 0 1 shelf 5 stock 5 sells 5; shop b at 0 2 shelf 5 stock 0 sells 1;");
        edge.does("visit(0, 0)").row("share(0, 0, #)", 0, 1).row("share(1, 0, #)", 0, 1);
        edge.does("visit(1, 0)").row("share(0, 0, #)", 0, 1).row("share(1, 0, #)", 14, 1);
    }

    private void shareThatIsNone() {
        Edge edge = edges.promise(22, "NONE if there are none such, for another what.");
        atDepot(edge, "days 2; truck 10 fixed 10 mile 0;", 5, 5, 5).stays("share(2, 1, 0)", 0).stays("share(2, 1, 1)", 1);
        edge.stays("share(3, 0, 0)", NONE).stays("share(-1, 0, 1)", NONE).stays("share(0, 2, 0)", NONE);
        edge.stays("share(0, -1, 1)", NONE).stays("share(0, 0, 2)", NONE).stays("share(0, 0, -1)", NONE);
        edge.stays("share(0, 1, 2)", NONE).stays("share(0, 1, -1)", NONE).stays("share(" + Edge.MOST + ", 0, 0)", NONE);
        edge.stays("share(0, " + Edge.LEAST + ", 0)", NONE).stays("share(0, 0, " + Edge.MOST + ")", NONE);
        edge.anew().stays("share(0, 0, 0)", NONE).stays("share(0, 0, 1)", NONE);
    }

    private void peak() {
        Edge edge = edges.promise(23, "The DAY with the most LOADS together, the first of like ones (what 0), "
            + "these (what 1). NONE for another what.");
        edge.town("days 14; truck 99; shop a at 0 0 shelf 9 stock 4 sells 1; shop b at 0 0 shelf 9 stock 9 sells 1;");
        edge.row("peak(#)", 0, 0, NONE).does("visit(1, 1)").row("peak(#)", 1, 1, NONE).does("undo()");
        edge.does("visit(0, 13)").row("peak(#)", 13, 9, NONE);
        edge.does("visit(1, 9)").row("peak(#)", 9, 9).does("visit(0, 0)").row("peak(#)", 9, 9);
        edge.does("visit(1, 10)", "visit(0, 10)").row("peak(#)", 10, 1 + 9).stays("peak(-1)", NONE);
        edge.stays("peak(" + Edge.MOST + ")", NONE).stays("peak(" + Edge.LEAST + ")", NONE);
        edge.does("clear()").row("peak(#)", 0, 0, NONE);
    }

    static void all(Edges edges) {
        EdgesOfRounds of = new EdgesOfRounds(edges);
        of.loadsAboveNothing();
        of.noMoreThanTheTruckCarries();
        of.costLeastThenFewest();
        of.theFirstAsARow();
        of.theLeastWay();
        of.howManyRounds();
        of.ofARound();
        of.aboard();
        of.miles();
        of.together();
        of.savingsThatFit();
        of.savingsAgainAndAgain();
        of.savingsThatCostLess();
        of.savingsOfTheLeastShops();
        of.savingsThatAreNone();
        of.shareInLowestTerms();
        of.shareThatIsNone();
        of.peak();
    }
}

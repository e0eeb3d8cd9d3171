/** Promises 4 and 5: what a TEXT may tell, its TOKENS and its FAULTS. */
final class EdgesOfText {
    private static final int NONE = Edge.NONE;
    /** 38 bytes each. */
    private static final String A = "shop a at 1 2 shelf 9 stock 3 sells 1;";
    private static final String B = "shop b at 3 4 shelf 8 stock 2 sells 2;";
    private static final String[] ONCE = {"days 1;", "depot 1 1;", "truck 60;", "hold 1;", "lost 1;"};
    private static final String[] KEPT = {"days", "depot", "truck", "fixed", "mile", "hold", "lost", "shop", "at",
        "shelf", "stock", "sells", "rush"};

    private final Edges edges;

    private EdgesOfText(Edges edges) {
        this.edges = edges;
    }

    private Edge term(String sentence) {
        return edges.term(sentence, 4, 5);
    }

    private static int shopsIn(String text) {
        return text.split("shop ", -1).length - 1;
    }

    /** A number between two parts of a text: from the least to the most it is read, the next ones are faults. */
    private static void bounds(Edge edge, String ahead, String behind, int least, int most, String question) {
        for (int n : new int[] {least, most}) {
            edge.reads(ahead + n + behind, shopsIn(ahead)).due(question, n);
        }
        if (least > 0) {
            edge.faults(ahead + (least - 1) + behind, 4, ahead.length());
        }
        edge.faults(ahead + (most + 1) + behind, most < 99 ? 4 : 1, ahead.length());
    }

    private void days() {
        Edge edge = term("days (1 .. 14 DAYS; 7 without)");
        bounds(edge, "days ", ";", 1, 14, "about(1)");
        edge.reads("days 14;", 0).due("rounds(13)", 0).due("rounds(14)", NONE);
        edge.reads("days 1;", 0).due("rounds(0)", 0).due("rounds(1)", NONE);
        edge.reads("hold 3;", 0).due("about(1)", 7);
    }

    private void depot() {
        Edge edge = term("depot (its PLACE; 0 0 without)");
        bounds(edge, "depot ", " 5;", 0, 30, "about(10)");
        bounds(edge, "depot 5 ", ";", 0, 30, "about(11)");
        edge.reads("hold 3;", 0).due("about(10)", 0).due("about(11)", 0);
        edge.reads(A, 1).due("shop(0, 5)", 3);
    }

    private void truck() {
        Edge edge = term("truck (how much it carries, 1 .. 99; 60 without;");
        bounds(edge, "truck ", ";", 1, 99, "about(2)");
        edge.reads("hold 3;", 0).due("about(2)", 60);
    }

    private void fixedAndMile() {
        Edge edge = term("FIXED 0 .. 99, MILE 0 .. 9; 10, 1 without)");
        bounds(edge, "truck 9 fixed ", ";", 0, 99, "about(3)");
        bounds(edge, "truck 9 fixed ", " mile 3;", 0, 99, "about(3)");
        bounds(edge, "truck 9 mile ", ";", 0, 9, "about(4)");
        bounds(edge, "truck 9 fixed 3 mile ", ";", 0, 9, "about(4)");
        edge.reads("truck 9;", 0).due("about(3)", 10).due("about(4)", 1);
        edge.reads("truck 9 fixed 8;", 0).due("about(3)", 8).due("about(4)", 1);
        edge.reads("truck 9 mile 8;", 0).due("about(3)", 10).due("about(4)", 8);
        edge.reads("hold 3;", 0).due("about(3)", 10).due("about(4)", 1);
    }

    private void hold() {
        Edge edge = term("hold (0 .. 9; 1 without)");
        bounds(edge, "hold ", ";", 0, 9, "about(5)");
        edge.reads("lost 3;", 0).due("about(5)", 1);
    }

    private void lost() {
        Edge edge = term("lost (0 .. 99; 20 without)");
        bounds(edge, "lost ", ";", 0, 99, "about(6)");
        edge.reads("hold 3;", 0).due("about(6)", 20);
    }

    private void onceEach() {
        Edge edge = term("Once each at most, and ahead of all shops");
        edge.reads(String.join("", ONCE) + A, 1).reads(A, 1);
        for (String line : ONCE) {
            edge.reads(line, 0).reads(line + A, 1);
            edge.faults(line + line, 2, line.length());
            edge.faults(line + "\n " + line + A, 2, line.length() + 2);
            edge.faults(A + line, 2, A.length());
            edge.faults(A + "rush a 0 1;" + line, 2, A.length() + 11);
            edge.faults(line + A + line, 2, line.length() + A.length());
            edge.faults(A + B + " " + line, 2, A.length() + B.length() + 1);
        }
    }

    private void sixShops() {
        Edge edge = term("shop (6 at most): a SHOP: its PLACE");
        StringBuilder six = new StringBuilder();
        for (char name = 'a'; name <= 'f'; name++) {
            six.append("shop ").append(name).append(" at 1 2 shelf 9 stock 3 sells 1;");
        }
        edge.reads(six.toString(), 6).due("shop(5, 3)", 3).due("shop(6, 3)", NONE).due("miles(63)", 6);
        edge.due("miles(64)", NONE);
        edge.faults(six + "shop g at 1 2 shelf 9 stock 3 sells 1;", 5, 228);
        edge.faults(six + "\nshop a at 99", 5, 229).faults(six + "shop", 5, 228);
        edge.faults(six + "rush g 0 1;", 3, 233);
        edge.reads(six + "rush f 0 1;", 6);
    }

    private void places() {
        Edge edge = term("PLACES: two numbers 0 .. 30.");
        bounds(edge, "shop a at ", " 5 shelf 9 stock 3 sells 1;", 0, 30, "shop(0, 0)");
        bounds(edge, "shop a at 5 ", " shelf 9 stock 3 sells 1;", 0, 30, "shop(0, 1)");
        edge.faults("depot 5;", 2, 7).faults("depot 5 5 5;", 2, 10).faults("shop a at 5 shelf", 2, 12);
        edge.faults("shop a at 5 5 5 shelf", 2, 14);
    }

    private void shelf() {
        Edge edge = term("its SHELF (1 .. what the truck carries)");
        String line = "shop a at 1 2 shelf ";
        bounds(edge, line, " stock 0 sells 1;", 1, 60, "shop(0, 2)");
        bounds(edge, "truck 1;" + line, " stock 0 sells 1;", 1, 1, "shop(0, 2)");
        bounds(edge, "truck 37;" + line, " stock 0 sells 1;", 1, 37, "shop(0, 2)");
        bounds(edge, "truck 99;" + line, " stock 0 sells 1;", 1, 99, "shop(0, 2)");
    }

    private void stock() {
        Edge edge = term("its STOCK at first (0 .. SHELF)");
        bounds(edge, "shop a at 1 2 shelf 9 stock ", " sells 1;", 0, 9, "shop(0, 3)");
        bounds(edge, "shop a at 1 2 shelf 1 stock ", " sells 1;", 0, 1, "shop(0, 3)");
        bounds(edge, "truck 99; shop a at 1 2 shelf 99 stock ", " sells 1;", 0, 99, "shop(0, 3)");
        bounds(edge, A + "shop b at 1 2 shelf 5 stock ", " sells 1;", 0, 5, "shop(1, 3)");
    }

    private void sells() {
        Edge edge = term("what it SELLS: 1 .. 7 numbers (0 .. 30)");
        String line = "shop a at 1 2 shelf 9 stock 3 sells";
        bounds(edge, line + " ", ";", 0, 30, "shop(0, 10)");
        bounds(edge, line + " 1 2 3 4 5 6 ", ";", 0, 30, "shop(0, 16)");
        edge.faults(line + ";", 2, 35).faults(line, 2, 35).faults(line + " a;", 2, 36);
        edge.reads(line + " 5;", 1).reads(line + " 5 6;", 1).reads(line + " 1 2 3 4 5 6 7;", 1);
        edge.faults(line + " 1 2 3 4 5 6 7 8;", 2, 50).faults(line + " 1 2 3 4 5 6 7 31;", 2, 50);
        edge.faults(line + " 1 2 3 4 5 6 7", 2, 49);
    }

    private void fromTheFirstAgain() {
        Edge edge = term("DAY by DAY, and so on from the first again");
        String line = "shop a at 1 2 shelf 9 stock 3 sells ";
        asked(edge.reads("days 14;" + line + "1 2 3 4 5 6 7;", 1), 1, 2, 3, 4, 5, 6, 7, 1, 2, 3, 4, 5, 6, 7);
        asked(edge.reads("days 14;" + line + "1 2 3 4 5;", 1), 1, 2, 3, 4, 5, 1, 2, 3, 4, 5, 1, 2, 3, 4);
        asked(edge.reads("days 3;" + line + "7;", 1), 7, 7, 7);
        asked(edge.reads("days 3;" + line + "7 8 9;", 1), 7, 8, 9);
        asked(edge.reads("days 3;" + line + "7 8;", 1), 7, 8, 7);
        asked(edge.reads("days 1;" + line + "7 8 9;", 1), 7);
    }

    private static void asked(Edge edge, int... days) {
        for (int day = 0; day < days.length; day++) {
            edge.due("shop(0, " + (10 + day) + ")", days[day]);
        }
        edge.due("shop(0, " + (10 + days.length) + ")", NONE);
    }

    private void twelveRushes() {
        Edge edge = term("rush (12 at most)");
        String twelve = "rush a 0 1;".repeat(12);
        edge.reads(A + twelve, 1).due("about(7)", 12).due("shop(0, 10)", 13).stays("rush(0, 0, 1)", NONE);
        edge.faults(A + twelve + "rush a 0 1;", 5, 38 + 132).faults(A + twelve + "rush", 5, 38 + 132);
        edge.faults(A + twelve + " rush b 9 99;", 5, 38 + 133);
        edge.reads(A + "rush a 0 1;".repeat(11), 1).due("about(7)", 11).due("rush(0, 0, 1)", 12);
        edge.reads(A + twelve + B, 2).due("about(7)", 12);
    }

    private void toldAhead() {
        Edge edge = term("of a SHOP that is told ahead");
        edge.reads(A + "rush a 0 1;" + B, 2).reads(A + B + "rush b 0 1;", 2).due("shop(1, 10)", 3).due("shop(0, 10)", 1);
        edge.faults("rush a 0 1;" + A, 3, 5).faults(A + "rush b 0 1;" + B, 3, 43).faults(A + "rush aa 0 1;", 3, 43);
    }

    private void rushDay() {
        Edge edge = term("on a DAY (0 .. the last one)");
        edge.reads(A + "rush a 0 5;", 1).due("shop(0, 10)", 6).due("shop(0, 11)", 1);
        edge.reads(A + "rush a 6 5;", 1).due("shop(0, 16)", 6).due("shop(0, 10)", 1);
        edge.faults(A + "rush a 7 5;", 4, 45).faults(A + "rush a 99 5;", 4, 45);
        edge.reads("days 1;" + A + "rush a 0 5;", 1).due("shop(0, 10)", 6);
        edge.faults("days 1;" + A + "rush a 1 5;", 4, 52);
        edge.reads("days 14;" + A + "rush a 13 5;", 1).due("shop(0, 23)", 6);
        edge.faults("days 14;" + A + "rush a 14 5;", 4, 53);
    }

    private void rushMore() {
        Edge edge = term("so much (1 .. 60) more is asked for");
        edge.reads(A + "rush a 2 1;", 1).due("shop(0, 12)", 2).reads(A + "rush a 2 60;", 1).due("shop(0, 12)", 61);
        edge.faults(A + "rush a 2 0;", 4, 47).faults(A + "rush a 2 61;", 4, 47).faults(A + "rush a 2 100;", 1, 47);
        edge.reads(A + "rush a 2 60;".repeat(12), 1).due("shop(0, 12)", 721).due("lost(0, 2)", 720).due("lost(0, 3)", 1);
    }

    private void words() {
        Edge edge = term("words (a .. z, 6 at most)");
        edge.reads(A.replace(" a ", " z "), 1).reads(A.replace(" a ", " az "), 1);
        edge.reads(A.replace(" a ", " abcxyz "), 1).reads(A.replace(" a ", " zzzzzz ") + "rush zzzzzz 0 1;", 1);
        edge.faults(A.replace(" a ", " abcdefg "), 1, 5).faults(A.replace(" a ", " aZ "), 1, 6);
        edge.faults(A.replace(" a ", " ` "), 1, 5).faults(A.replace(" a ", " { "), 1, 5);
        edge.faults(A.replace(" a ", " A "), 1, 5).faults(A.replace(" a ", " a` "), 1, 6);
        edge.faults("dayssss 1;", 1, 0).faults("dayss 1;", 2, 0).faults("day 1;", 2, 0);
        // names that share their first six or last six letters, and names whose letters only stand otherwise
        edge.reads(A.replace(" a ", " aaaaaa ") + A.replace(" a ", " aaaaab ") + A.replace(" a ", " baaaaa "), 3);
        edge.reads(A.replace(" a ", " ab ") + A.replace(" a ", " ba ") + A + A.replace(" a ", " aa "), 4);
    }

    private void numbers() {
        Edge edge = term("numbers (1 to 2 digits)");
        edge.reads("lost 0;", 0).due("about(6)", 0).reads("lost 00;", 0).due("about(6)", 0);
        edge.reads("lost 09;", 0).due("about(6)", 9).reads("lost 99;", 0).due("about(6)", 99);
        edge.reads("lost 10;", 0).due("about(6)", 10);
        edge.faults("lost 000;", 1, 5).faults("lost 100;", 1, 5).faults("lost 007;", 1, 5);
        edge.faults("lost 4294967297;", 1, 5).faults("lost /;", 1, 5).faults("lost :;", 1, 5).faults("lost -1;", 1, 5);
    }

    private void blanks() {
        Edge edge = term("Blanks (32, 10) part them or not; each is as long as can be");
        edge.reads("days3;depot1 2;truck9fixed4mile3;hold2;lost6;shop a at1 2shelf9stock3sells1 2;rush a0 5;"
            .replace("9fixed", "9 fixed").replace("4mile", "4 mile").replace("2shelf", "2 shelf")
            .replace("9stock", "9 stock").replace("3sells", "3 sells"), 1);
        edge.due("about(1)", 3).due("about(3)", 4).due("shop(0, 10)", 6).due("shop(0, 11)", 2);
        edge.reads("\n days \n 3 \n ; \n ", 0).due("about(1)", 3).reads("days\n3\n;", 0).due("about(1)", 3);
        edge.faults("day s 3;", 2, 0).faults("depot 12;", 2, 8).reads("depot 1 2;", 0).faults("depot 1 2 ;;", 2, 11);
        edge.faults("shopa at 1 2 shelf 9 stock 3 sells 1;", 2, 0);
        edge.faults("days\t3;", 1, 4).faults("days\r3;", 1, 4).faults("days\u000b3;", 1, 4).faults("days\u00003;", 1, 4);
        edge.faults("days\u001f3;", 1, 4).faults("days!3;", 1, 4).faults("days\u00a03;", 1, 4);
    }

    private void letterBehindDigit() {
        Edge edge = term("no letter directly behind a digit");
        edge.faults("truck 9fixed 4;", 1, 6).faults("truck 9z;", 1, 6).faults("truck 9a;", 1, 6);
        edge.faults("truck 12a;", 1, 6).faults("truck 123a;", 1, 6).reads("truck 9 fixed4;", 0);
        edge.reads("truck 9\nfixed 4;", 0).reads("truck 9;hold 3;", 0).faults("truck 9;hold 3x;", 1, 13);
        edge.faults("truck 9Z;", 1, 7).faults("truck 9`;", 1, 7).faults("truck 9{;", 1, 7);
    }

    private void noneOfThese() {
        Edge edge = term("what is none of these, a longer word, more digits, digits with a letter behind: "
            + "1 at its first byte");
        for (int sign = 0; sign < 256; sign++) {
            String text = String.valueOf((char) sign);
            if (sign == 32 || sign == 10) {
                edge.reads(text, 0);
            } else {
                boolean isToken = sign == ';' || sign >= 'a' && sign <= 'z' || sign >= '0' && sign <= '9';
                edge.faults(text, isToken ? 2 : 1, 0);
                edge.faults("hold 3;" + text, isToken ? 2 : 1, 7);
            }
        }
        edge.faults("hold 3; abcdefgh 1;", 1, 8).faults("hold 3; 123", 1, 8).faults("hold 3; 1a", 1, 8);
        edge.faults("hold 3; \u00ff", 1, 8).faults("a".repeat(800), 1, 0).faults("1".repeat(800), 1, 0);
    }

    private void names() {
        Edge edge = term("NAMES: words but days, depot, truck, fixed, mile, hold, lost, shop, at, shelf, stock, sells, "
            + "rush.");
        for (String kept : KEPT) {
            edge.faults(A.replace(" a ", " " + kept + " "), 2, 5);
            edge.faults(A + "rush " + kept + " 0 1;", 2, 43);
            String shorter = kept.substring(1);
            edge.reads(A.replace(" a ", " " + shorter + " ") + "rush " + shorter + " 0 1;", 1);
            edge.reads(A.replace(" a ", " " + kept + "x "), 1).reads(A.replace(" a ", " x" + kept + " "), 1);
        }
        edge.faults("shop 1 at", 2, 5).faults("shop ; at", 2, 5).faults("shop", 2, 4).faults(A + "rush 1 0 1;", 2, 43);
    }

    private void theFirstByPlace() {
        Edge edge = term("FAULTS, the first by its place (bytes from 0; the end: the text's length), "
            + "at one place the least");
        edge.faults("days 15; hold !;", 4, 5).faults("! days 15;", 1, 0).faults("days 15!", 4, 5).faults("x!", 2, 0);
        edge.faults("days", 2, 4).faults("days ", 2, 5).faults("days 3", 2, 6).faults("days 3 \n ", 2, 9);
        edge.faults("days 3;" + " ".repeat(789) + "days", 2, 796).faults("hold 3;" + " ".repeat(789) + "days", 2, 800);
        edge.faults("hold 3;" + " ".repeat(792) + "!", 1, 799).faults(" ".repeat(799) + ";", 2, 799);
        edge.faults(";".repeat(800), 2, 0).faults("hold 3;" + ";1".repeat(396), 2, 7).faults("9".repeat(799), 1, 0);
        // 1 ahead of 2, of 3, of 4; 2 ahead of 3, of 4, of 5
        edge.faults("days !", 1, 5).faults("!", 1, 0).faults(A + "rush bbbbbbb 0 1;", 1, 43).faults("days 150;", 1, 5);
        edge.faults(A + "rush days 0 1;", 2, 43).faults(A.replace("1;", "1 2 3 4 5 6 7 99;"), 2, 50);
        edge.faults(A.replace("1;", "1 2 3 4 5 6 7 999;"), 1, 50).faults(A.replace(";", " shop b"), 2, 38);
        String six = (A + B + A.replace(" a ", " c ") + A.replace(" a ", " d ") + A.replace(" a ", " e ")
            + A.replace(" a ", " f ")).replaceAll(";$", " ");
        edge.faults(six + "shop g", 2, 228);
    }

    private void whatCantStand() {
        Edge edge = term("2 one that can't stand there (a line that comes once, a second time, or behind a shop: "
            + "at its word; an eighth number of sells)");
        String[] tokens = "shop a at 1 2 shelf 9 stock 3 sells 1 ;".split(" ");
        StringBuilder ahead = new StringBuilder();
        for (int i = 0; i < tokens.length; i++) {
            String wrong = tokens[i].matches("[0-9]+") ? "x" : "7";
            boolean mayGoOn = tokens[i].equals(";");
            if (i > 0) {
                edge.faults(ahead.toString(), 2, ahead.length());
            }
            edge.faults(ahead + (mayGoOn ? "x" : wrong), 2, ahead.length());
            edge.faults(ahead + (mayGoOn ? "sells" : ";"), 2, ahead.length());
            edge.faults(ahead + "mile", 2, ahead.length());
            ahead.append(tokens[i]).append(' ');
        }
        edge.faults("truck 9 mile 1 fixed 1;", 2, 15).faults("truck 9 mile 1 mile 1;", 2, 15);
        edge.faults("truck 9 fixed 1 fixed 1;", 2, 16).faults("truck 9 9;", 2, 8).faults("truck fixed 1;", 2, 6);
        edge.faults("fixed 1;", 2, 0).faults("mile 1;", 2, 0).faults("at 1 1;", 2, 0).faults("hold;", 2, 4);
        edge.faults("days;", 2, 4).faults("depot;", 2, 5).faults("depot 1;", 2, 7).faults("truck;", 2, 5);
        edge.faults("lost;", 2, 4).faults("lost 1 1;", 2, 7).faults("hold 1 1;", 2, 7).faults("depot 1 1 1;", 2, 10);
        edge.faults("truck 9 fixed;", 2, 13).faults("truck 9 mile;", 2, 12).faults("days 3 days 3;", 2, 7);
        edge.faults(A + "rush a 1;", 2, 46).faults(A + "rush a;", 2, 44).faults(A + "rush;", 2, 42);
        edge.faults(A + "rush a 1 1 1;", 2, 49).faults(A + "rush a 1 1", 2, 48).faults(";", 2, 0);
    }

    private void namesTold() {
        Edge edge = term("3 a NAME told already (shop), that is no SHOP (rush)");
        edge.faults(A + A, 3, 43).faults(A + B + A, 3, 81).faults(A + B + B, 3, 81).reads(A + B, 2);
        edge.faults(A + "rush b 0 1;", 3, 43).reads(A + "rush a 0 1;", 1).faults("rush x", 3, 5);
        edge.faults(A.replace(" a ", " abcdef ") + "rush abcde 0 1;", 3, 48);
        // a name of a text that went before, or of one with a fault, is told no more
        edge.reads(A, 1).puts(B + "rush a 0 1;").due("text()", NONE).due("fault(0)", 3).due("fault(1)", 43);
        edge.puts(A).due("text()", 1).due("fault(0)", 0);
    }

    private void numbersThatCantBe() {
        Edge edge = term("4 a number that can't be");
        edge.faults("days 0;", 4, 5).faults("days 00;", 4, 5).faults("days 15 !", 4, 5).faults("truck 00", 4, 6);
        edge.faults("depot 31 31;", 4, 6).faults("truck 5;" + A, 4, 28).faults("hold 10;", 4, 5);
        edge.reads("truck 9;" + A, 1).faults("truck 8;" + A, 4, 28);
    }

    private void oneTooMany() {
        Edge edge = term("5 one too many (shop, rush: at that word)");
        String names = "abcdef";
        StringBuilder six = new StringBuilder();
        for (int i = 0; i < 6; i++) {
            six.append("shop ").append(names.charAt(i)).append(" at 0 0 shelf 1 stock 0 sells 0;");
        }
        edge.reads(six.toString(), 6).faults(six + " \nshop !", 5, six.length() + 2);
        String rushes = "rush f 0 1;".repeat(12);
        edge.reads(six + rushes, 6).faults(six + rushes + "rush !", 5, six.length() + 132);
        edge.faults(six + rushes + "shop", 5, six.length() + 132).faults(six + rushes + "hold 1;", 2, six.length() + 132);
    }

    static void all(Edges edges) {
        EdgesOfText of = new EdgesOfText(edges);
        of.days();
        of.depot();
        of.truck();
        of.fixedAndMile();
        of.hold();
        of.lost();
        of.onceEach();
        of.sixShops();
        of.places();
        of.shelf();
        of.stock();
        of.sells();
        of.fromTheFirstAgain();
        of.twelveRushes();
        of.toldAhead();
        of.rushDay();
        of.rushMore();
        of.words();
        of.numbers();
        of.blanks();
        of.letterBehindDigit();
        of.noneOfThese();
        of.names();
        of.theFirstByPlace();
        of.whatCantStand();
        of.namesTold();
        of.numbersThatCantBe();
        of.oneTooMany();
    }
}

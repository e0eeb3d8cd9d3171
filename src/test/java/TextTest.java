/** Promises 1 to 7: a new object, the tape, the text with its faults, what it tells. */
public final class TextTest {
    private static final int NONE = ShelfDrives.NONE;
    private static final String ONE = "shop a at 1 2 shelf 9 stock 3 sells 1;";

    private final Check check = new Check();

    private void promise1NewObject() {
        ShelfDrives x = new ShelfDrives();
        int[] about = {0, 7, 60, 10, 1, 1, 20, 0, 0, 0, 0, 0};
        for (int what = 0; what < about.length; what++) {
            check.due("new about " + what, x.about(what), about[what]);
        }
        check.due("new shop", x.shop(0, 0), NONE);
        check.due("new rounds", x.rounds(6), 0);
        check.due("new rounds behind", x.rounds(7), NONE);
        check.due("new undo", x.undo(), false);
        check.due("new fault", x.fault(0), 0);
        check.due("new reach", x.reach(), 300);
        check.due("new joint", x.joint(0), 0);
        check.due("new joint cost", x.joint(1), 0);
        check.due("new chance", x.chance(1, 20, 20, 1), 0);
        check.due("NONE", NONE, -1);
    }

    private void promise2Feed() {
        ShelfDrives x = new ShelfDrives();
        for (int i = 1; i <= 40; i++) {
            check.due("feed " + i, x.feed(0x20202020, 0x20202020, 0x20202020, 0x20202020, 0x20202020), 20 * i);
        }
        check.due("feed beyond", x.feed(1, 2, 3, 4, 5), NONE);
        check.due("feed beyond stays", x.about(9), 800);
        check.due("end 781", x.end(781), 781);
        check.due("feed 801", x.feed(1, 2, 3, 4, 5), NONE);
        check.due("feed 801 stays", x.about(9), 781);
        check.due("end 780", x.end(780), 780);
        check.due("feed 800", x.feed(0x686f6c64, 0x20373b20, 0x20202020, 0x20202020, 0x20202020), 800);
        check.due("text of 800", x.text(), 0);
        check.due("the highest first", x.about(5), 7);
        x.feed(0x686f6c64, 0x20333bff, 0, 0, 0);
        check.due("byte 255", x.text(), NONE);
        check.due("byte 255 fault", x.fault(0), 1);
        check.due("byte 255 place", x.fault(1), 7);
    }

    private void promise3End() {
        ShelfDrives x = new ShelfDrives();
        check.due("end of nothing", x.end(0), 0);
        check.due("end beyond nothing", x.end(1), NONE);
        x.feed(0x64617973, 0x20333b20, 0x78202020, 0x20202020, 0x20202020);
        check.due("end below", x.end(-1), NONE);
        check.due("end least", x.end(Integer.MIN_VALUE), NONE);
        check.due("end most", x.end(Integer.MAX_VALUE), NONE);
        check.due("end 21", x.end(21), NONE);
        check.due("still there", x.about(9), 20);
        check.due("end 20", x.end(20), 20);
        check.due("end 7", x.end(7), 7);
        check.due("end 8", x.end(8), NONE);
        check.due("the first bytes", x.text(), 0);
        check.due("the first bytes told", x.about(1), 3);
    }

    private void promise4Text() {
        ShelfDrives x = Check.of("days 2; truck 9 fixed 4 mile 3; hold 2; lost 6; depot 3 4;" + ONE + "rush a 1 5;");
        check.due("visit", x.visit(0, 1), 1);
        check.due("text with a fault", Check.read(x, "days 3; shop"), NONE);
        check.due("tape is empty", x.about(9), 0);
        check.due("all else stays: days", x.about(1), 2);
        check.due("all else stays: visits", x.shop(0, 4), 2);
        check.due("all else stays: acts", x.about(8), 1);
        check.due("another text", Check.read(x, "shop b at 0 0 shelf 60 stock 60 sells 30 ;" + ONE), 2);
        check.due("tape is empty again", x.about(9), 0);
        int[] about = {2, 7, 60, 10, 1, 1, 20, 0, 0, 0, 0, 0};
        for (int what = 0; what < about.length; what++) {
            check.due("without: about " + what, x.about(what), about[what]);
        }
        check.due("no visits", x.shop(0, 4), 0);
        check.due("no visits of the other", x.shop(1, 4), 0);
        check.due("no acts", x.undo(), false);
        check.due("no rush", x.shop(0, 11), 30);
        check.due("an empty text", x.text(), 0);
        check.due("an empty text: shops", x.about(0), 0);
        check.due("blanks alone", Check.read(x, " \n\n "), 0);
        check.due("tight", Check.read(x, "days3;depot1 2;shop ab at 1 2 shelf3 stock2 sells1 2;rush ab 0 1;"), 1);
        check.due("tight: asked", x.shop(0, 10), 2);
        check.due("six letters, leading 0", Check.read(x, "shop abcdef at 00 01 shelf 05 stock 05 sells 00;"), 1);
        check.due("lines in any order", Check.read(x, "lost 0;hold 0;truck 1 mile 0;depot 30 30;days 14;"), 0);
        check.due("mile without fixed", x.about(3), 10);
        check.due("mile", x.about(4), 0);
        check.due("greatest values", Check.read(x, "days 14;truck 99 fixed 99 mile 9;hold 9;lost 99;"
            + "shop a at 30 30 shelf 99 stock 99 sells 30 30 30 30 30 30 30;rush a 13 60;"), 1);
        check.due("the last day asks", x.shop(0, 23), 90);
    }

    private void fault(String text, int number, int place) {
        ShelfDrives x = new ShelfDrives();
        check.due("text of <" + text + ">", Check.read(x, text), NONE);
        check.due("fault of <" + text + ">", x.fault(0), number);
        check.due("place of <" + text + ">", x.fault(1), place);
    }

    private void promise5Fault() {
        fault("days 100;", 1, 5);
        fault("days 7x;", 1, 5);
        fault("days 7X;", 1, 6);
        fault("hold\t1;", 1, 4);
        fault("depots 1 1;", 2, 0);
        fault("abcdefg", 1, 0);
        fault("abcdef", 2, 0);
        fault("Days 1;", 1, 0);
        fault("days", 2, 4);
        fault("days  ", 2, 6);
        fault("days 3", 2, 6);
        fault("days 3 3;", 2, 7);
        fault("days ;", 2, 5);
        fault("days x;", 2, 5);
        fault("days 0;", 4, 5);
        fault("days 15;", 4, 5);
        fault("days 3;\ndays 3;", 2, 8);
        fault("7", 2, 0);
        fault(";", 2, 0);
        fault("depot 31 0;", 4, 6);
        fault("depot 0 31;", 4, 8);
        fault("depot 3;", 2, 7);
        fault("truck 0;", 4, 6);
        fault("truck 9 mile 10;", 4, 13);
        fault("truck 9 mile 1 fixed 1;", 2, 15);
        fault("truck 9 fixed 1 fixed 1;", 2, 16);
        fault("truck 9 fixed;", 2, 13);
        fault("truck fixed 1;", 2, 6);
        fault("hold 10;", 4, 5);
        fault("hold 1;hold 1;", 2, 7);
        fault("lost 1;lost 1;", 2, 7);
        fault("truck 1;truck 1;", 2, 8);
        fault("depot 1 1;depot 1 1;", 2, 10);
        fault(ONE + "hold 1;", 2, 38);
        fault(ONE + "lost 100", 2, 38);
        fault("shop at at 1 1", 2, 5);
        fault("shop 5", 2, 5);
        fault("shop a 1 1", 2, 7);
        fault("shop a at 1 x", 2, 12);
        fault("shop a at 1 1 stock", 2, 14);
        fault("shop a at 1 1 shelf 61", 4, 20);
        fault("shop a at 1 1 shelf 0", 4, 20);
        fault("truck 5;shop a at 1 1 shelf 6", 4, 28);
        fault("shop a at 1 1 shelf 6 stock 7", 4, 28);
        fault("shop a at 1 1 shelf 6 stock 6 sells;", 2, 35);
        fault("shop a at 1 1 shelf 6 stock 6 sells 31;", 4, 36);
        fault("shop a at 1 1 shelf 6 stock 6 sells 1 x", 2, 38);
        fault("shop a at 1 1 shelf 6 stock 6 sells 1", 2, 37);
        fault("shop a at 1 1 shelf 6 stock 6 sells 1 2 3 4 5 6 7 99;", 2, 50);
        fault("shop a at 1 1 shelf 6 stock 6 sells 1 2 3 4 5 6 7 999;", 1, 50);
        fault(ONE + "shop a at", 3, 43);
        fault(ONE + "rush b 0 1;", 3, 43);
        fault(ONE + "rush rush 0 1;", 2, 43);
        fault(ONE + "rush a 7 1;", 4, 45);
        fault(ONE + "rush a 6 0;", 4, 47);
        fault(ONE + "rush a 6 61;", 4, 47);
        fault(ONE + "rush a 6 60", 2, 49);
        fault("rush a 0 1;" + ONE, 3, 5);
        StringBuilder many = new StringBuilder();
        for (char name = 'a'; name < 'g'; name++) {
            many.append("shop ").append(name).append(" at 1 2 shelf 9 stock 3 sells 1;");
        }
        fault(many + "shop g", 5, 228);
        fault(many + "shop", 5, 228);
        fault(many + "days 1;", 2, 228);
        fault(";".repeat(800), 2, 0);
        fault(";1".repeat(400), 2, 0);
        fault("a".repeat(800), 1, 0);
        fault("9".repeat(800), 1, 0);
        fault("hold 1;" + " ".repeat(792) + "!", 1, 799);
        fault("hold 1;" + " ".repeat(789) + "days", 2, 800);
        String rushes = "rush a 0 1;".repeat(12);
        fault(ONE + rushes + "rush b 9 9", 5, 38 + 132);
        ShelfDrives x = new ShelfDrives();
        check.due("twelve rushes", Check.read(x, ONE + rushes), 1);
        check.due("without a fault", x.fault(0), 0);
        check.due("place without a fault", x.fault(1), NONE);
        check.due("six shops", Check.read(x, many.toString()), 6);
        Check.read(x, "days 0;");
        check.due("fault again", x.fault(0), 4);
        check.due("fault below", x.fault(-1), NONE);
        check.due("fault above", x.fault(2), NONE);
        Check.read(x, "days 1;");
        check.due("fault of the latest", x.fault(0), 0);
        check.due("place of the latest", x.fault(1), NONE);
    }

    private void promise6About() {
        ShelfDrives x = Check.of("days 5; truck 42 fixed 7 mile 3; hold 4; lost 33; depot 8 9;" + ONE + "rush a 0 2;");
        x.visit(0, 0);
        x.rush(0, 1, 2);
        x.feed(0, 0, 0, 0, 0);
        int[] about = {1, 5, 42, 7, 3, 4, 33, 2, 2, 20, 8, 9};
        for (int what = 0; what < about.length; what++) {
            check.due("about " + what, x.about(what), about[what]);
        }
        check.due("about below", x.about(-1), NONE);
        check.due("about above", x.about(12), NONE);
    }

    private void promise7Shop() {
        ShelfDrives x = Check.of("days 4; depot 5 1; shop a at 1 2 shelf 9 stock 3 sells 1 2 3;"
            + "shop bb at 6 30 shelf 8 stock 0 sells 0; rush a 3 10; rush a 3 5; rush bb 0 1;");
        x.visit(0, 1);
        x.visit(0, 3);
        int[] first = {1, 2, 9, 3, 10, 5, NONE, NONE, NONE, NONE, 1, 2, 3, 16, NONE};
        int[] second = {6, 30, 8, 0, 0, 30, NONE, NONE, NONE, NONE, 1, 0, 0, 0, NONE};
        for (int what = 0; what < first.length; what++) {
            check.due("shop 0 " + what, x.shop(0, what), first[what]);
            check.due("shop 1 " + what, x.shop(1, what), second[what]);
        }
        check.due("shop what below", x.shop(0, -1), NONE);
        check.due("shop what least", x.shop(0, Integer.MIN_VALUE), NONE);
        check.due("shop what most", x.shop(0, Integer.MAX_VALUE), NONE);
        check.due("shop below", x.shop(-1, 0), NONE);
        check.due("shop above", x.shop(2, 0), NONE);
    }

    public static void main(String[] args) {
        TextTest test = new TextTest();
        test.promise1NewObject();
        test.promise2Feed();
        test.promise3End();
        test.promise4Text();
        test.promise5Fault();
        test.promise6About();
        test.promise7Shop();
        test.check.end();
    }
}

/** Promises 30 to 40: the best days, acts, undo. The numbers are worked out by hand. */
public final class PlansTest {
    private static final int NONE = ShelfDrives.NONE;
    /** Without hold any one visit will do, and each costs the same. */
    private static final String LIKE = "days 3; hold 0; shop a at 1 1 shelf 3 stock 2 sells 1;";

    private final Check check = new Check();

    private void plan(String name, ShelfDrives x, int... visits) {
        for (int shop = 0; shop < visits.length; shop++) {
            check.due(name + ": visits of " + shop, x.shop(shop, 4), visits[shop]);
        }
    }

    private void promise30Alone() {
        ShelfDrives x = RunTest.planned();
        check.due("alone a", x.alone(0, 0), 4);
        check.due("alone a cost", x.alone(0, 1), 15);
        check.due("alone b", x.alone(1, 0), 5);
        check.due("alone b cost", x.alone(1, 1), 30);
        plan("alone changes nothing", x, 2, 5);
        check.due("alone of like ones the least number", Check.of(LIKE).alone(0, 0), 1);
        ShelfDrives none = Check.of("days 2; shop a at 0 0 shelf 9 stock 5 sells 0; shop b at 0 0 shelf 3 stock 3 sells 4;");
        check.due("alone without visits", none.alone(0, 0), 0);
        check.due("alone without visits cost", none.alone(0, 1), 10);
        check.due("alone always lost", none.alone(1, 0), NONE);
        check.due("alone always lost cost", none.alone(1, 1), NONE);
        ShelfDrives free = Check.of("days 3; truck 9 fixed 0 mile 0; hold 0; shop a at 0 0 shelf 9 stock 9 sells 1;");
        check.due("alone of like ones the fewest", free.alone(0, 0), 0);
        check.due("alone what above", x.alone(0, 2), NONE);
        check.due("alone what below", x.alone(0, -1), NONE);
        check.due("alone shop above", x.alone(2, 0), NONE);
        check.due("alone shop below", x.alone(-1, 0), NONE);
    }

    private void promise31Every() {
        ShelfDrives x = RunTest.planned();
        check.due("every b p", x.every(1, 0), 2);
        check.due("every b f", x.every(1, 1), 0);
        check.due("every b cost", x.every(1, 2), 30);
        check.due("every a: day 2 alone, greatest p", x.every(0, 0), 7);
        check.due("every a f", x.every(0, 1), 2);
        check.due("every a cost", x.every(0, 2), 15);
        ShelfDrives like = Check.of(LIKE);
        check.due("every of like ones the greatest p", like.every(0, 0), 7);
        check.due("every of like ones the least f", like.every(0, 1), 0);
        check.due("every of like ones cost", like.every(0, 2), 14);
        ShelfDrives lost = Check.of("days 2; lost 1; shop a at 9 9 shelf 5 stock 0 sells 3;");
        check.due("every may lose: never visited", lost.every(0, 1), 2);
        check.due("every may lose: cost", lost.every(0, 2), 6);
        plan("every changes nothing", x, 2, 5);
        check.due("every what above", x.every(0, 3), NONE);
        check.due("every what below", x.every(0, -1), NONE);
        check.due("every shop above", x.every(2, 0), NONE);
        check.due("every shop below", x.every(-1, 0), NONE);
    }

    private void promise32Joint() {
        ShelfDrives x = RunTest.planned();
        check.due("joint days", x.joint(0), 5);
        check.due("joint cost", x.joint(1), 51);
        plan("joint changes nothing", x, 2, 5);
        check.due("joint of like ones the least number", Check.of(LIKE).joint(0), 1);
        ShelfDrives lost = Check.of("days 2; lost 1; shop a at 9 9 shelf 5 stock 0 sells 3;");
        check.due("joint may lose", lost.joint(0), 0);
        check.due("joint may lose: cost", lost.joint(1), 6);
        check.due("joint what above", x.joint(2), NONE);
        check.due("joint what below", x.joint(-1), NONE);
    }

    private void promise33Visit() {
        ShelfDrives x = Check.of(RunTest.TOWN);
        check.due("visit", x.visit(1, 3), 1);
        check.due("visit another", x.visit(1, 0), 1);
        plan("visit", x, 0, 9);
        check.due("visit no more", x.visit(1, 3), 0);
        plan("visit no more", x, 0, 1);
        check.due("visit acts", x.about(8), 3);
        check.due("visit shop above", x.visit(2, 0), NONE);
        check.due("visit shop below", x.visit(-1, 0), NONE);
        check.due("visit day above", x.visit(0, 4), NONE);
        check.due("visit day below", x.visit(0, -1), NONE);
        check.due("none such is no act", x.about(8), 3);
    }

    private void promise34Rule() {
        ShelfDrives x = RunTest.planned();
        check.due("rule 0", x.rule(0), 3);
        plan("rule 0", x, 4, 5);
        check.due("rule 1", x.rule(1), 3);
        plan("rule 1", x, 4, 5);
        check.due("rule 2", x.rule(2), 4);
        plan("rule 2", x, 5, 5);
        check.due("rule 13: days beyond the last ask for nothing", x.rule(13), 4);
        check.due("rule acts", x.about(8), 7);
        check.due("rule below", x.rule(-1), NONE);
        check.due("rule above", x.rule(14), NONE);
        check.due("another n is no act", x.about(8), 7);
        ShelfDrives full = Check.of("days 2; shop a at 0 0 shelf 3 stock 3 sells 2; shop b at 1 1 shelf 5 stock 0 sells 1;");
        check.due("rule visits a full shelf that is too small", full.rule(1), 3);
        plan("rule visits a full shelf", full, 3, 1);
        check.due("a visit with a load of 0", full.of(0, 3), 1);
        ShelfDrives none = Check.of("days 2; shop a at 0 0 shelf 9 stock 9 sells 2;");
        check.due("rule without need", none.rule(5), 0);
        check.due("an act all the same", none.about(8), 1);
    }

    private void promise35Better() {
        ShelfDrives x = RunTest.planned();
        check.due("better", x.better(40), 1);
        plan("better", x, 4, 5);
        check.due("better cost", x.cost(0), 45);
        check.due("better is an act", x.about(8), 4);
        check.due("better no more", x.better(1), 0);
        check.due("none made is no act", x.about(8), 4);
        check.due("undo of better", x.undo(), true);
        plan("undo of better", x, 2, 5);
        check.due("better 0", x.better(0), NONE);
        check.due("better 41", x.better(41), NONE);
        check.due("better below", x.better(-1), NONE);
        ShelfDrives late = Check.of("days 6; shop a at 5 5 shelf 9 stock 2 sells 1;");
        late.visit(0, 5);
        check.due("late: cost", late.cost(0), 99);
        check.due("better two times", late.better(2), 2);
        plan("better two times", late, 8);
        check.due("better two times: cost", late.cost(0), 72);
        check.due("better one more", late.better(40), 1);
        plan("better one more", late, 4);
        check.due("better one more: cost", late.cost(0), 57);
        check.due("many moves, two acts", late.about(8), 3);
    }

    private void promise36Tune() {
        ShelfDrives x = Check.of(RunTest.TOWN);
        check.due("tune 1", x.tune(1), 1);
        plan("tune 1", x, 2, 0);
        check.due("tune 1 cost", x.cost(0), 99);
        check.due("undo of tune", x.undo(), true);
        check.due("tune 3", x.tune(3), 3);
        plan("tune 3", x, 2, 3);
        check.due("tune 3 cost", x.cost(0), 71);
        check.due("tune is one act", x.about(8), 1);
        x.rule(0);
        check.due("tune of the best", x.tune(40), 0);
        check.due("none is no act", x.about(8), 2);
        ShelfDrives idle = Check.of("days 2; shop a at 9 9 shelf 9 stock 8 sells 1;");
        idle.visit(0, 1);
        check.due("tune: a visit goes", idle.tune(5), 1);
        plan("tune: a visit goes", idle, 0);
        check.due("tune 0", x.tune(0), NONE);
        check.due("tune 41", x.tune(41), NONE);
        check.due("tune below", x.tune(-1), NONE);
    }

    private void promise37Least() {
        ShelfDrives x = RunTest.planned();
        check.due("least", x.least(), 45);
        plan("least", x, 4, 5);
        check.due("least is an act", x.about(8), 4);
        check.due("least again", x.least(), 45);
        check.due("least is an act again", x.about(8), 5);
        ShelfDrives like = Check.of(LIKE);
        like.visit(0, 1);
        check.due("least of like ones", like.least(), 14);
        plan("least of like ones the least number", like, 1);
        ShelfDrives free = Check.of("days 7; truck 9 fixed 0 mile 0; hold 0; shop a at 0 0 shelf 9 stock 9 sells 1;"
            + "shop b at 0 0 shelf 9 stock 9 sells 1;");
        free.visit(1, 6);
        check.due("least with 14 cells", free.least(), 0);
        plan("least of like ones the fewest", free, 0, 0);
        ShelfDrives much = Check.of("days 5; shop a at 0 0 shelf 9 stock 9 sells 1; shop b at 0 0 shelf 9 stock 9 sells 1;"
            + "shop c at 0 0 shelf 9 stock 9 sells 1;");
        check.due("least with 15 cells", much.least(), NONE);
        check.due("least with 15 cells is no act", much.about(8), 0);
        check.due("least of 14 days", Check.of("days 14; shop a at 0 0 shelf 9 stock 0 sells 0;").least(), 0);
    }

    private void promise38Clear() {
        ShelfDrives x = RunTest.planned();
        check.due("clear", x.clear(), 3);
        plan("clear", x, 0, 0);
        check.due("clear is an act", x.about(8), 4);
        check.due("clear of none", x.clear(), 0);
        check.due("clear of none is no act", x.about(8), 4);
        check.due("cost then", x.cost(0), 103);
        check.due("undo of clear", x.undo(), true);
        plan("undo of clear", x, 2, 5);
    }

    private void promise39Rush() {
        ShelfDrives x = Check.of(RunTest.TOWN + "rush a 0 1; rush b 3 2;");
        check.due("rush", x.rush(0, 0, 60), 3);
        check.due("rush: asked", x.shop(0, 10), 63);
        check.due("rush 0", x.rush(0, 0, 0), NONE);
        check.due("rush 61", x.rush(0, 0, 61), NONE);
        check.due("rush below", x.rush(0, 0, -5), NONE);
        check.due("rush shop above", x.rush(2, 0, 1), NONE);
        check.due("rush shop below", x.rush(-1, 0, 1), NONE);
        check.due("rush day above", x.rush(0, 4, 1), NONE);
        check.due("rush day below", x.rush(0, -1, 1), NONE);
        check.due("none of these is an act", x.about(8), 1);
        for (int count = 4; count <= 12; count++) {
            check.due("rush " + count, x.rush(1, 3, 1), count);
        }
        check.due("rush 13", x.rush(1, 3, 1), NONE);
        check.due("rush 13 is no act", x.about(8), 10);
        check.due("asked with all", x.shop(1, 13), 4 + 2 + 9);
        check.due("undo of a rush", x.undo(), true);
        check.due("rushes then", x.about(7), 11);
        check.due("asked then", x.shop(1, 13), 14);
        check.due("rush again", x.rush(0, 1, 5), 12);
        check.due("rush: lost", x.lost(0, 1), 8);
    }

    private void promise40Undo() {
        ShelfDrives x = Check.of(RunTest.TOWN);
        check.due("undo of nothing", x.undo(), false);
        for (int i = 0; i < 13; i++) {
            x.visit(i % 2, i / 2 % 4);
        }
        check.due("twelve are kept", x.about(8), 12);
        for (int i = 0; i < 12; i++) {
            check.due("undo " + i, x.undo(), true);
            check.due("acts left", x.about(8), 11 - i);
        }
        check.due("the oldest went", x.undo(), false);
        plan("the oldest act stays", x, 1, 0);
        x.rush(0, 2, 7);
        x.rule(0);
        x.visit(0, 0);
        x.rush(1, 1, 3);
        x.undo();
        check.due("a rush taken back", x.shop(1, 11), 4);
        check.due("the earlier rush stays", x.shop(0, 12), 9);
        x.undo();
        x.undo();
        plan("rule taken back", x, 1, 0);
        check.due("the rush is still there", x.about(7), 1);
        x.undo();
        check.due("and is gone", x.about(7), 0);
        check.due("asked as told", x.shop(0, 12), 2);
        check.due("undo is no act", x.undo(), false);
        x.least();
        check.due("a new act behind undo", x.about(8), 1);
        x.undo();
        plan("least taken back", x, 1, 0);
        check.due("cost is as it was", x.cost(0), 107);
    }

    public static void main(String[] args) {
        PlansTest test = new PlansTest();
        test.promise30Alone();
        test.promise31Every();
        test.promise32Joint();
        test.promise33Visit();
        test.promise34Rule();
        test.promise35Better();
        test.promise36Tune();
        test.promise37Least();
        test.promise38Clear();
        test.promise39Rush();
        test.promise40Undo();
        test.check.end();
    }
}

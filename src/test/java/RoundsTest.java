/** Promises 16 to 23: rounds, their ways, savings, shares. The numbers are worked out by hand. */
public final class RoundsTest {
    private static final int NONE = ShelfDrives.NONE;
    private static final int NOT_THERE = -1000000;

    private final Check check = new Check();

    /** Three shops that each lack 5, so that two fit on one truck; all of them visited on day 1. */
    private static ShelfDrives three(String truck) {
        ShelfDrives x = Check.of("days 3; truck 10 " + truck + "; shop a at 1 0 shelf 5 stock 0 sells 0;"
            + "shop b at 0 3 shelf 5 stock 0 sells 0; shop c at 1 3 shelf 5 stock 0 sells 0;");
        for (int shop = 0; shop < 3; shop++) {
            x.visit(shop, 1);
        }
        return x;
    }

    /** Loads of 4, 5, 6, 5 for a truck of 10: only a and c with b and d are two rounds; a and b lie together. */
    private static ShelfDrives four(String truck) {
        ShelfDrives x = Check.of("days 1; truck 10 " + truck + "; shop a at 10 0 shelf 4 stock 0 sells 0;"
            + "shop b at 10 0 shelf 5 stock 0 sells 0; shop c at 0 10 shelf 6 stock 0 sells 0;"
            + "shop d at 0 10 shelf 5 stock 0 sells 0;");
        for (int shop = 0; shop < 4; shop++) {
            x.visit(shop, 0);
        }
        return x;
    }

    private void promise16Rounds() {
        ShelfDrives x = three("fixed 1 mile 1");
        check.due("rounds without visits", x.rounds(0), 0);
        check.due("rounds", x.rounds(1), 2);
        check.due("rounds below", x.rounds(-1), NONE);
        check.due("rounds above", x.rounds(3), NONE);
        ShelfDrives full = Check.of("shop a at 1 1 shelf 5 stock 5 sells 1;");
        full.visit(0, 0);
        full.visit(0, 1);
        check.due("no round without a load", full.rounds(0), 0);
        check.due("a round with a load", full.rounds(1), 1);
    }

    private void promise17Round() {
        ShelfDrives x = three("fixed 1 mile 1");
        check.due("parted: a alone", x.round(1, 0, 0), 1);
        check.due("parted: b and c", x.round(1, 1, 0), 6);
        check.due("miles of a", x.round(1, 0, 1), 2);
        check.due("miles of b and c", x.round(1, 1, 1), 8);
        check.due("loads", x.round(1, 1, 2), 10);
        check.due("cost", x.round(1, 1, 3), 9);
        check.due("way 0", x.round(1, 1, 10), 1);
        check.due("way 1", x.round(1, 1, 11), 2);
        check.due("way 2", x.round(1, 1, 12), NONE);
        check.due("way most", x.round(1, 1, Integer.MAX_VALUE), NONE);
        check.due("what 4", x.round(1, 1, 4), NONE);
        check.due("what 9", x.round(1, 1, 9), NONE);
        check.due("what below", x.round(1, 1, -1), NONE);
        check.due("what least", x.round(1, 1, Integer.MIN_VALUE), NONE);
        check.due("k above", x.round(1, 2, 0), NONE);
        check.due("k below", x.round(1, -1, 0), NONE);
        check.due("day without rounds", x.round(0, 0, 0), NONE);
        check.due("day above", x.round(3, 0, 0), NONE);
        ShelfDrives like = three("fixed 0 mile 0");
        check.due("like ones: the fewest", like.rounds(1), 2);
        check.due("like ones: the least set first", like.round(1, 0, 0), 1);
        check.due("like ones: then the next", like.round(1, 1, 0), 6);
        ShelfDrives crossed = four("fixed 0 mile 0");
        check.due("like ones: two rather than three", crossed.rounds(0), 2);
        check.due("like ones: a and c", crossed.round(0, 0, 0), 5);
        check.due("like ones: b and d", crossed.round(0, 1, 0), 10);
        ShelfDrives wide = Check.of("days 1; truck 10 fixed 0 mile 0; shop a at 0 0 shelf 5 stock 0 sells 0;"
            + "shop b at 0 0 shelf 6 stock 0 sells 0; shop c at 0 0 shelf 5 stock 0 sells 0;");
        wide.rule(0);
        check.due("rule 0 where nothing is asked for", wide.rounds(0), 0);
        for (int shop = 0; shop < 3; shop++) {
            wide.visit(shop, 0);
        }
        check.due("like ones of three shops", wide.rounds(0), 2);
        check.due("like ones of three shops: a and c", wide.round(0, 0, 0), 5);
        check.due("like ones of three shops: b", wide.round(0, 1, 0), 2);
        ShelfDrives apart = four("fixed 0 mile 1");
        check.due("three rounds that cost less than two", apart.rounds(0), 3);
        check.due("three rounds: a and b", apart.round(0, 0, 0), 3);
        check.due("three rounds: c", apart.round(0, 1, 0), 4);
        check.due("three rounds: d", apart.round(0, 2, 0), 8);
        check.due("three rounds: cost", apart.costOf(0), 60);
        check.due("two rounds where each is dear", four("fixed 30 mile 1").rounds(0), 2);
        ShelfDrives line = Check.of("shop a at 3 0 shelf 1 stock 0 sells 0; shop b at 1 0 shelf 1 stock 0 sells 0;"
            + "shop c at 2 0 shelf 1 stock 0 sells 0;");
        for (int shop = 0; shop < 3; shop++) {
            line.visit(shop, 0);
        }
        check.due("of like ways the first as a row: 0", line.round(0, 0, 10), 0);
        check.due("of like ways the first as a row: 1", line.round(0, 0, 11), 2);
        check.due("of like ways the first as a row: 2", line.round(0, 0, 12), 1);
        check.due("of like ways: miles", line.round(0, 0, 1), 6);
    }

    private void promise18Aboard() {
        ShelfDrives x = Check.of("shop a at 9 0 shelf 7 stock 0 sells 0; shop b at 9 2 shelf 4 stock 1 sells 0;"
            + "shop c at 0 2 shelf 6 stock 0 sells 0;");
        for (int shop = 0; shop < 3; shop++) {
            x.visit(shop, 2);
        }
        int[] left = {16, 9, 6, 0};
        for (int i = -1; i < 3; i++) {
            check.due("aboard " + i, x.aboard(2, 0, i), left[i + 1]);
        }
        check.due("aboard behind the last", x.aboard(2, 0, 3), NONE);
        check.due("aboard i below", x.aboard(2, 0, -2), NONE);
        check.due("aboard i most", x.aboard(2, 0, Integer.MAX_VALUE), NONE);
        check.due("aboard k above", x.aboard(2, 1, -1), NONE);
        check.due("aboard k below", x.aboard(2, -1, -1), NONE);
        check.due("aboard day without", x.aboard(1, 0, -1), NONE);
        check.due("aboard day above", x.aboard(7, 0, -1), NONE);
    }

    private void promise19Miles() {
        ShelfDrives x = three("fixed 1 mile 1");
        int[] miles = {0, 2, 6, 8, 8, 8, 8, 8};
        for (int set = 0; set < 8; set++) {
            check.due("miles " + set, x.miles(set), miles[set]);
        }
        check.due("miles of one not there", x.miles(8), NONE);
        check.due("miles of one not there and others", x.miles(15), NONE);
        check.due("miles below", x.miles(-1), NONE);
        check.due("miles least", x.miles(Integer.MIN_VALUE), NONE);
    }

    private void promise20Together() {
        ShelfDrives x = three("fixed 5 mile 2");
        check.due("together a b", x.together(0, 1), 5);
        check.due("together a c", x.together(0, 2), 9);
        check.due("together c a", x.together(2, 0), 9);
        check.due("together b c", x.together(1, 2), 17);
        check.due("together one twice", x.together(1, 1), NOT_THERE);
        check.due("together above", x.together(0, 3), NOT_THERE);
        check.due("together below", x.together(-1, 0), NOT_THERE);
        check.due("together costs no less", three("fixed 0 mile 1").together(0, 1), 0);
    }

    private void promise21Savings() {
        ShelfDrives x = three("fixed 5 mile 2");
        check.due("savings: b and c go together", x.savings(1, 0), 5 + 4 + 5 + 16);
        check.due("savings: rounds", x.savings(1, 1), 2);
        ShelfDrives free = three("fixed 0 mile 0");
        check.due("savings only if it is less", free.savings(1, 1), 3);
        check.due("savings of nothing to pay", free.savings(1, 0), 0);
        ShelfDrives like = three("fixed 4 mile 0");
        check.due("savings of like ones", like.savings(1, 1), 2);
        check.due("savings of like ones cost", like.savings(1, 0), 8);
        check.due("savings without loads", x.savings(0, 0), 0);
        check.due("savings without loads, rounds", x.savings(0, 1), 0);
        check.due("savings day above", x.savings(3, 0), NONE);
        check.due("savings day below", x.savings(-1, 0), NONE);
        check.due("savings what above", x.savings(1, 2), NONE);
        check.due("savings what below", x.savings(1, -1), NONE);
        ShelfDrives one = three("fixed 1 mile 0");
        check.due("savings of 1", one.savings(1, 1), 2);
        check.due("savings of 1: cost", one.savings(1, 0), 2);
        ShelfDrives again = Check.of("days 1; truck 60 fixed 1 mile 0; shop a at 0 0 shelf 5 stock 0 sells 0;"
            + "shop b at 0 0 shelf 5 stock 0 sells 0; shop c at 0 0 shelf 5 stock 0 sells 0;");
        for (int shop = 0; shop < 3; shop++) {
            again.visit(shop, 0);
        }
        check.due("savings of 1 again and again", again.savings(0, 1), 1);
        check.due("savings of 1 again and again: cost", again.savings(0, 0), 1);
        savingsWorseThanParted();
    }

    /** Of like pairs a and b (5 and 5) go first; c and d (9 each) then fit with none on a truck of 14. */
    private void savingsWorseThanParted() {
        ShelfDrives x = Check.of("truck 14 fixed 6 mile 0; shop a at 0 0 shelf 5 stock 0 sells 0;"
            + "shop b at 0 0 shelf 5 stock 0 sells 0; shop c at 0 0 shelf 9 stock 0 sells 0;"
            + "shop d at 0 0 shelf 9 stock 0 sells 0;");
        for (int shop = 0; shop < 4; shop++) {
            x.visit(shop, 0);
        }
        check.due("savings take the least shops", x.savings(0, 1), 3);
        check.due("savings cost", x.savings(0, 0), 18);
        check.due("parted it is less", x.costOf(0), 12);
        check.due("parted sets: a and c", x.round(0, 0, 0), 5);
        check.due("parted sets: b and d", x.round(0, 1, 0), 10);
    }

    private void promise22Share() {
        ShelfDrives x = three("fixed 10 mile 0");
        for (int shop = 0; shop < 3; shop++) {
            check.due("share above " + shop, x.share(shop, 1, 0), 20);
            check.due("share below " + shop, x.share(shop, 1, 1), 3);
        }
        ShelfDrives free = three("fixed 0 mile 0");
        check.due("share of nothing: above", free.share(0, 1, 0), 0);
        check.due("share of nothing: below", free.share(0, 1, 1), 1);
        x.visit(2, 1);
        check.due("share of two: above", x.share(0, 1, 0), 5);
        check.due("share of two: below", x.share(0, 1, 1), 1);
        check.due("share without a load: above", x.share(2, 1, 0), 0);
        check.due("share without a load: below", x.share(2, 1, 1), 1);
        check.due("share what above", x.share(0, 1, 2), NONE);
        check.due("share what below", x.share(0, 1, -1), NONE);
        check.due("share what above without a load", x.share(2, 1, 2), NONE);
        check.due("share shop above", x.share(3, 1, 0), NONE);
        check.due("share shop below", x.share(-1, 1, 0), NONE);
        check.due("share day above", x.share(0, 3, 0), NONE);
        check.due("share day below", x.share(0, -1, 0), NONE);
    }

    private void promise23Peak() {
        ShelfDrives x = RunTest.planned();
        check.due("peak day", x.peak(0), 2);
        check.due("peak loads", x.peak(1), 8);
        x.visit(0, 0);
        check.due("peak of like ones the first", x.peak(0), 0);
        check.due("peak of like ones", x.peak(1), 8);
        check.due("peak what above", x.peak(2), NONE);
        check.due("peak what below", x.peak(-1), NONE);
        ShelfDrives none = new ShelfDrives();
        check.due("peak without loads", none.peak(0), 0);
        check.due("peak without loads, these", none.peak(1), 0);
    }

    public static void main(String[] args) {
        RoundsTest test = new RoundsTest();
        test.promise16Rounds();
        test.promise17Round();
        test.promise18Aboard();
        test.promise19Miles();
        test.promise20Together();
        test.promise21Savings();
        test.promise22Share();
        test.promise23Peak();
        test.check.end();
    }
}

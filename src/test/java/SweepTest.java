import java.util.ArrayList;
import java.util.List;

/** Every argument from below the first to beyond the last, and texts spoilt at every place, beside the oracle. */
public final class SweepTest {
    private static final String[] TOWNS = {
        "",
        "days 1; truck 1 fixed 0 mile 0; hold 0; lost 0; shop a at 0 0 shelf 1 stock 0 sells 1;",
        "days 14; truck 20 fixed 7 mile 2; hold 1; lost 9; depot 3 3; shop a at 1 2 shelf 9 stock 4 sells 2;"
            + "shop b at 4 5 shelf 20 stock 20 sells 1 2 3 4 5 6 7; shop c at 3 3 shelf 12 stock 0 sells 0 8;"
            + "shop d at 9 1 shelf 7 stock 7 sells 3 0; shop e at 3 9 shelf 11 stock 5 sells 4;"
            + "shop f at 30 30 shelf 15 stock 1 sells 5 1 1; rush a 0 9; rush f 13 60; rush b 13 1;",
        "days 7; truck 10 fixed 0 mile 0; hold 0; lost 1; shop a at 5 5 shelf 5 stock 0 sells 5;"
            + "shop b at 5 5 shelf 5 stock 5 sells 5;",
        "days 4; truck 12 fixed 3; shop a at 1 0 shelf 6 stock 5 sells 2 3; shop b at 0 2 shelf 6 stock 1 sells 4;"
            + "shop c at 2 2 shelf 6 stock 6 sells 6; rush c 3 1;"};
    private static final String WHOLE = "days 9;\ndepot 4 5 ;truck 30 fixed 8 mile 2; hold 3;lost 17;\n"
        + "shop a at 1 2 shelf 9 stock 3 sells 1 2 3; shop bb at 30 0 shelf 30 stock 0 sells 0 1 2 3 4 5 6;"
        + "rush a 0 1; rush bb 8 60;";
    private static final String[] SCRAPS = {"", ";", ";;", "0", "00", "1", "7", "9", "10", "14", "15", "30", "31", "60",
        "61", "99", "100", "5x", "x", "a", "bb", "abcdef", "abcdefg", "days", "depot", "truck", "fixed", "mile", "hold",
        "lost", "shop", "at", "shelf", "stock", "sells", "rush", "!", "A", "days 3;", "1 2", "1 2 3 4 5 6"};

    /** Towns where like costs are parted by how many visits there are, then by their number. */
    private static final String[] TIES = {
        "days 7; truck 7 fixed 0 mile 0; hold 2; lost 5; shop a at 0 1 shelf 4 stock 3 sells 3 1 1 1 3;",
        "days 7; truck 9 fixed 3 mile 0; hold 1; lost 5; shop a at 0 0 shelf 1 stock 0 sells 3 0;"
            + "shop b at 2 1 shelf 5 stock 4 sells 0 2 3 0 1;",
        "days 4; truck 13 fixed 2 mile 0; hold 0; lost 1; shop a at 0 1 shelf 8 stock 4 sells 1 0 3 1;"
            + "shop b at 1 0 shelf 10 stock 1 sells 3;",
        "days 4; truck 8 fixed 2 mile 0; hold 1; lost 4; shop a at 2 0 shelf 3 stock 2 sells 1 2 2 1;"
            + "shop b at 1 0 shelf 2 stock 1 sells 0 1 1 2;",
        "days 4; truck 9 fixed 1 mile 0; hold 1; lost 2; shop a at 1 1 shelf 2 stock 1 sells 3 0 3 2;"
            + "shop b at 0 2 shelf 3 stock 3 sells 0 1 1 2;",
        "days 5; truck 9 fixed 1 mile 1; hold 2; lost 2; shop a at 1 1 shelf 2 stock 0 sells 0 2 3 0 0;"
            + "shop b at 2 0 shelf 4 stock 2 sells 3;"};

    private final Check check = new Check();
    private ShelfDrives x = new ShelfDrives();
    private Oracle o = new Oracle();
    private String told = "";

    private void due(String call, long got, long want) {
        check.due("text <" + told + ">: " + call, got, want);
    }

    private void put(String text) {
        told = text;
        byte[] bytes = Check.bytesOf(text);
        for (int at = 0; at < bytes.length; at += 20) {
            int[] n = new int[5];
            for (int i = 0; i < 5; i++) {
                n[i] = Check.number(bytes, at + 4 * i);
            }
            x.feed(n[0], n[1], n[2], n[3], n[4]);
            o.feed(n);
        }
        x.end(bytes.length);
        o.end(bytes.length);
        due("text()", x.text(), o.text());
        due("fault(0)", x.fault(0), o.fault(0));
        due("fault(1)", x.fault(1), o.fault(1));
        for (int what = 0; what < 12; what++) {
            due("about(" + what + ")", x.about(what), o.about(what));
        }
    }

    private void anew() {
        x = new ShelfDrives();
        o = new Oracle();
    }

    private void everyByte() {
        for (int at = 0; at <= WHOLE.length(); at++) {
            anew();
            put(WHOLE.substring(0, at));
            put(WHOLE.substring(at));
            for (int sign = 0; sign < 256; sign += sign < 128 ? 1 : 25) {
                put(WHOLE.substring(0, at) + (char) sign + WHOLE.substring(Math.min(WHOLE.length(), at + 1)));
            }
            anew();
            for (char sign : " \n;09az!".toCharArray()) {
                put(WHOLE.substring(0, at) + sign + WHOLE.substring(at));
            }
        }
    }

    private void everyToken() {
        String[] tokens = WHOLE.replace(";", " ; ").trim().split("\\s+");
        for (int i = 0; i < tokens.length; i++) {
            anew();
            for (String scrap : SCRAPS) {
                put(joined(tokens, i, scrap));
                put(joined(tokens, i, tokens[i] + " " + scrap));
                put(joined(tokens, i, scrap + " " + tokens[i]));
            }
        }
    }

    private static String joined(String[] tokens, int at, String instead) {
        List<String> all = new ArrayList<>(List.of(tokens));
        all.set(at, instead);
        return String.join(" ", all);
    }

    private static int[] upTo(int first, int last) {
        int[] all = new int[last - first + 3];
        for (int i = first; i <= last; i++) {
            all[i - first] = i;
        }
        all[all.length - 2] = Integer.MIN_VALUE;
        all[all.length - 1] = Integer.MAX_VALUE;
        return all;
    }

    private void askOne() {
        for (int a : upTo(-2, 26)) {
            due("fault(" + a + ")", x.fault(a), o.fault(a));
            due("about(" + a + ")", x.about(a), o.about(a));
            due("empty(" + a + ")", x.empty(a), o.empty(a));
            due("rounds(" + a + ")", x.rounds(a), o.rounds(a));
            due("peak(" + a + ")", x.peak(a), o.peak(a));
            due("cost(" + a + ")", x.cost(a), o.cost(a));
            due("costOf(" + a + ")", x.costOf(a), o.costOf(a));
        }
        for (int a : upTo(-2, 70)) {
            due("miles(" + a + ")", x.miles(a), o.miles(a));
        }
        for (int a : upTo(-2, 303)) {
            due("scaled(" + a + ")", x.scaled(a), o.scaled(a));
        }
        due("reach()", x.reach(), o.reach());
        int cost = x.cost(0);
        for (int a : new int[] {-1, 0, 1, cost - 60, cost - 20, cost - 10, cost - 1, cost, cost + 1, cost + 10, cost + 60}) {
            due("truck(" + a + ")", x.truck(a), o.truck(a));
        }
    }

    private void askTwo() {
        for (int a : upTo(-2, 7)) {
            for (int b : upTo(-2, 26)) {
                String pair = "(" + a + ", " + b + ")";
                due("shop" + pair, x.shop(a, b), o.shop(a, b));
                due("load" + pair, x.load(a, b), o.load(a, b));
                due("stock" + pair, x.stock(a, b), o.stock(a, b));
                due("lost" + pair, x.lost(a, b), o.lost(a, b));
                due("of" + pair, x.of(a, b), o.of(a, b));
                due("bears" + pair, x.bears(a, b), o.bears(a, b));
                due("waits" + pair, x.waits(a, b), o.waits(a, b));
                due("together" + pair, x.together(a, b), o.together(a, b));
                due("savings(" + b + ", " + a + ")", x.savings(b, a), o.savings(b, a));
                due("worth" + pair, x.worth(a, b), o.worth(a, b));
                due("every" + pair, x.every(a, b), o.every(a, b));
            }
        }
    }

    private void askThree() {
        for (int day : upTo(-2, 15)) {
            for (int k : upTo(-2, 7)) {
                for (int what : upTo(-2, 17)) {
                    String three = "(" + day + ", " + k + ", " + what + ")";
                    due("round" + three, x.round(day, k, what), o.round(day, k, what));
                    due("aboard" + three, x.aboard(day, k, what), o.aboard(day, k, what));
                }
                for (int what = -1; what <= 2; what++) {
                    due("share(" + k + ", " + day + ", " + what + ")", x.share(k, day, what), o.share(k, day, what));
                }
            }
        }
        for (int m : upTo(-1, 22)) {
            for (int spread : upTo(-1, 22)) {
                for (int what = -1; what <= 2; what++) {
                    due("chance(5, " + m + ", " + spread + ", " + what + ")", x.chance(5, m, spread, what),
                        o.chance(5, m, spread, what));
                }
            }
        }
    }

    private void refused() {
        for (int n : new int[] {-2, -1, 14, 15, 41, 42, Integer.MIN_VALUE, Integer.MAX_VALUE}) {
            due("rule(" + n + ")", x.rule(n), -1);
            if (n < 1 || n > 40) {
                due("better(" + n + ")", x.better(n), -1);
                due("tune(" + n + ")", x.tune(n), -1);
            }
            int more = n < 1 ? n : 61;
            due("rush(0, 0, " + more + ")", x.rush(0, 0, more), -1);
        }
        due("about(8)", x.about(8), o.about(8));
    }

    private void act(int step) {
        switch (step) {
            case 0 -> due("tune(40)", x.tune(40), o.tune(40));
            case 1 -> due("rule(2)", x.rule(2), o.rule(2));
            case 2 -> due("better(40)", x.better(40), o.better(40));
            default -> {
                for (int shop = 0; shop < 6; shop++) {
                    for (int day = shop % 3; day < 14; day += 3) {
                        due("visit", x.visit(shop, day), o.visit(shop, day));
                    }
                }
            }
        }
    }

    private void everyArgument() {
        for (String town : TOWNS) {
            anew();
            put(town);
            for (int step = 0; step < 4; step++) {
                act(step);
                refused();
                askOne();
                askTwo();
                askThree();
            }
        }
    }

    private void everyTie() {
        for (String town : TIES) {
            anew();
            put(town);
            for (int what = -1; what <= 2; what++) {
                due("joint(" + what + ")", x.joint(what), o.joint(what));
                for (int shop = -1; shop <= 2; shop++) {
                    due("alone(" + shop + ", " + what + ")", x.alone(shop, what), o.alone(shop, what));
                    due("every(" + shop + ", " + what + ")", x.every(shop, what), o.every(shop, what));
                }
            }
            due("least()", x.least(), o.least());
            for (int shop = 0; shop < x.about(0); shop++) {
                due("shop(" + shop + ", 4)", x.shop(shop, 4), o.shop(shop, 4));
            }
        }
    }

    public static void main(String[] args) {
        SweepTest test = new SweepTest();
        test.everyByte();
        test.everyToken();
        test.everyArgument();
        test.everyTie();
        test.check.end();
    }
}

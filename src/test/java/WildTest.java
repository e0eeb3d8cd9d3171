import java.util.Random;

/** Any arguments in any state: no call throws, and a question changes nothing. */
public final class WildTest {
    private static final int[] EDGES = {Integer.MIN_VALUE, Integer.MIN_VALUE + 1, Integer.MIN_VALUE + 10, -1000000, -21,
        -2, -1, 0, 1, 2, 3, 5, 6, 7, 9, 10, 11, 12, 13, 14, 15, 16, 20, 21, 23, 24, 31, 32, 33, 40, 41, 60, 61, 63, 64,
        99, 100, 300, 301, 799, 800, 801, 65536, 0x3b3b3b3b, 0x80808080, Integer.MAX_VALUE - 10, Integer.MAX_VALUE};

    private final Random dice;
    private final ShelfDrives x = new ShelfDrives();

    private WildTest(int seed) {
        dice = new Random(seed);
    }

    private int any() {
        return dice.nextInt(3) == 0 ? EDGES[dice.nextInt(EDGES.length)] : dice.nextInt(16) - 1;
    }

    private int ask(int call) {
        int a = any();
        int b = any();
        int c = any();
        int d = any();
        return switch (call) {
            case 0 -> x.fault(a);
            case 1 -> x.about(a);
            case 2 -> x.shop(a, b);
            case 3 -> x.load(a, b);
            case 4 -> x.stock(a, b);
            case 5 -> x.lost(a, b);
            case 6 -> x.of(a, b);
            case 7 -> x.empty(a);
            case 8 -> x.bears(a, b);
            case 9 -> x.waits(a, b);
            case 10 -> x.chance(a, b, c, d);
            case 11 -> x.rounds(a);
            case 12 -> x.round(a, b, c);
            case 13 -> x.aboard(a, b, c);
            case 14 -> x.miles(a);
            case 15 -> x.together(a, b);
            case 16 -> x.savings(a, b);
            case 17 -> x.share(a, b, c);
            case 18 -> x.peak(a);
            case 19 -> x.cost(a);
            case 20 -> x.costOf(a);
            case 21 -> x.worth(a, b);
            case 22 -> x.truck(a);
            case 23 -> x.reach();
            case 24 -> x.scaled(a);
            case 25 -> x.alone(a, b);
            case 26 -> x.every(a, b);
            default -> x.joint(a);
        };
    }

    private void act() {
        int a = any();
        switch (dice.nextInt(12)) {
            case 0 -> x.feed(a, any(), any(), any(), any());
            case 1 -> x.end(a);
            case 2 -> x.text();
            case 3 -> x.rule(a);
            case 4 -> x.better(a);
            case 5 -> x.tune(a);
            case 6 -> x.least();
            case 7 -> x.clear();
            case 8, 9 -> x.rush(a, any(), any());
            case 10 -> x.undo();
            default -> x.visit(a, any());
        }
    }

    private String state() {
        StringBuilder state = new StringBuilder();
        for (int what = 0; what < 12; what++) {
            state.append(x.about(what)).append(' ');
        }
        for (int shop = 0; shop < x.about(0); shop++) {
            for (int what = 0; what < 24; what++) {
                state.append(x.shop(shop, what)).append(' ');
            }
            for (int day = 0; day < x.about(1); day++) {
                state.append(x.load(shop, day)).append(' ').append(x.stock(shop, day)).append(' ');
                state.append(x.lost(shop, day)).append(' ');
            }
        }
        for (int what = 0; what < 4; what++) {
            state.append(x.cost(what)).append(' ');
        }
        return state.append(x.fault(0)).append(' ').append(x.fault(1)).toString();
    }

    private void run(Check check) {
        Texts texts = new Texts(dice);
        for (int i = 0; i < 400; i++) {
            if (dice.nextInt(60) == 0) {
                x.end(0);
                Check.read(x, texts.any(dice.nextBoolean() ? 14 : 84));
            }
            act();
            String before = state();
            int call = dice.nextInt(28);
            ask(call);
            check.due("question " + call + " changes nothing", state().equals(before), true);
        }
    }

    public static void main(String[] args) {
        Check check = new Check();
        for (int seed = 0; seed < 100; seed++) {
            new WildTest(seed).run(check);
        }
        check.end();
    }
}

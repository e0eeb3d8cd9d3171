import java.util.ArrayList;
import java.util.List;

/** The test of one sentence of the document: an object, what its calls answer, and what must stay as it was. */
final class Edge {
    static final int NONE = ShelfDrives.NONE;
    static final int NOT_THERE = -1000000;
    static final int LEAST = Integer.MIN_VALUE;
    static final int MOST = Integer.MAX_VALUE;
    /** What texts with a fault must leave as it is: nothing in it is as without a text. */
    private static final String OTHER = "days 3; depot 3 4; truck 9 fixed 4 mile 3; hold 2; lost 6;"
        + "shop p at 1 2 shelf 9 stock 3 sells 1; shop q at 5 6 shelf 8 stock 8 sells 3 4; rush p 1 5;";

    private final Check check;
    private final String sentence;
    private final List<String> steps = new ArrayList<>();
    private Called x = new Called();
    private String told = "";
    private String stands = null;

    Edge(Check check, String sentence) {
        this.check = check;
        this.sentence = sentence;
    }

    private String name(String call) {
        return "<" + sentence + ">" + (told.isEmpty() ? "" : " text <" + told + ">") + ": " + call;
    }

    /** A new object; what was asked of the old one is behind us. */
    Edge anew() {
        steps.clear();
        x = new Called();
        told = "";
        stands = null;
        return this;
    }

    private long take(String call) {
        steps.add(call);
        stands = null;
        return x.call(call);
    }

    /** Calls whose answers are of no matter here. */
    Edge does(String... calls) {
        for (String call : calls) {
            take(call);
        }
        return this;
    }

    Edge puts(String text) {
        told = text;
        return does(Called.putting(text).toArray(new String[0]));
    }

    /** A new object that has read this text, which is without a fault. */
    Edge town(String text) {
        anew().puts(text).does("text()");
        return due("fault(0)", 0);
    }

    Edge due(String call, long want) {
        check.due(name(call), take(call), want);
        return this;
    }

    /** The same call with one argument after the other, from the first on: what each answers. */
    Edge row(String call, long... wants) {
        for (int i = 0; i < wants.length; i++) {
            stays(call.replace("#", String.valueOf(i)), wants[i]);
        }
        return this;
    }

    /** A question, or what is refused: the answer, and all stays as it was. */
    Edge stays(String call, long want) {
        if (stands == null) {
            stands = Called.whole(steps, true);
        }
        check.due(name(call), x.call(call), want);
        List<String> more = new ArrayList<>(steps);
        more.add(call);
        same(call, Called.whole(more, true), stands);
        return this;
    }

    private void same(String call, String got, String want) {
        check.due(name(call + " leaves all else as it was"), got.equals(want), true);
        if (!got.equals(want)) {
            System.out.println("it was\n" + want + "and is\n" + got);
        }
    }

    private Edge overOther(String text) {
        anew().puts(OTHER).does("text()", "visit(0, 1)", "rush(1, 2, 3)", "visit(1, 0)");
        return puts(text);
    }

    /** A text without a fault, told over another one, of which nothing is left. */
    Edge reads(String text, int shops) {
        overOther(text).due("text()", shops).due("fault(0)", 0).due("fault(1)", NONE);
        for (int shop = 0; shop < shops; shop++) {
            due("shop(" + shop + ", 4)", 0);
        }
        return due("about(0)", shops).due("about(8)", 0).due("about(9)", 0);
    }

    /** A text with this fault at this place, told over another one, of which all stays. */
    Edge faults(String text, int number, int place) {
        overOther("");
        String before = Called.whole(steps, false);
        puts(text).due("text()", NONE).due("fault(0)", number).due("fault(1)", place).due("about(9)", 0);
        same("text()", Called.whole(steps, false), before);
        return this;
    }
}

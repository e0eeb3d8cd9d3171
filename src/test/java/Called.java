import java.lang.reflect.Method;
import java.util.ArrayList;
import java.util.HashMap;
import java.util.List;
import java.util.Map;

/** An object whose calls are told as texts, so that a test prints what it called; no more of them than are promised. */
final class Called {
    private static final int MOST_CALLS = 512;
    private static final Map<String, Method> FACE = new HashMap<>();

    static {
        for (Method m : ShelfDrives.class.getMethods()) {
            if (m.getDeclaringClass() == ShelfDrives.class) {
                FACE.put(m.getName(), m);
            }
        }
    }

    private final ShelfDrives x = new ShelfDrives();
    private int calls = 0;

    /** "load(0, 13)": what it answers; of undo 1 or 0. */
    long call(String call) {
        calls++;
        if (calls > MOST_CALLS) {
            throw new IllegalStateException("more calls than are promised: " + call);
        }
        int open = call.indexOf('(');
        String[] told = call.substring(open + 1, call.length() - 1).split(",");
        Method method = FACE.get(call.substring(0, open));
        Object[] numbers = new Object[method.getParameterCount()];
        for (int i = 0; i < numbers.length; i++) {
            numbers[i] = Integer.valueOf(told[i].trim());
        }
        try {
            Object answer = method.invoke(x, numbers);
            return answer instanceof Boolean is ? (is ? 1 : 0) : (Integer) answer;
        } catch (ReflectiveOperationException e) {
            throw new IllegalStateException(call, e);
        }
    }

    /** The calls that put a text on an empty tape and cut it to its length. */
    static List<String> putting(String text) {
        byte[] bytes = Check.bytesOf(text);
        List<String> calls = new ArrayList<>();
        for (int at = 0; at < bytes.length; at += 20) {
            StringBuilder feed = new StringBuilder("feed(");
            for (int i = 0; i < 5; i++) {
                feed.append(i > 0 ? ", " : "").append(Check.number(bytes, at + 4 * i));
            }
            calls.add(feed.append(")").toString());
        }
        calls.add("end(" + bytes.length + ")");
        return calls;
    }

    private static Called after(List<String> steps) {
        Called made = new Called();
        for (String step : steps) {
            made.call(step);
        }
        return made;
    }

    /** All that can be seen of an object, but for faults. */
    private String state() {
        StringBuilder state = new StringBuilder("about");
        for (int what = 0; what < 12; what++) {
            state.append(' ').append(call("about(" + what + ")"));
        }
        long shops = call("about(0)");
        long days = call("about(1)");
        for (int shop = 0; shop < shops; shop++) {
            state.append("; shop ").append(shop);
            for (int what = 0; what < 10 + days; what += what == 5 ? 5 : 1) {
                state.append(' ').append(call("shop(" + shop + ", " + what + ")"));
            }
            state.append(", run");
            for (int day = 0; day < days; day++) {
                state.append(' ').append(call("load(" + shop + ", " + day + ")"));
                state.append(' ').append(call("stock(" + shop + ", " + day + ")"));
            }
        }
        return state.append("; cost ").append(call("cost(0)")).append('\n').toString();
    }

    private String faults() {
        return "fault " + call("fault(0)") + " at " + call("fault(1)") + "\n";
    }

    /** What stands after these calls: the state, what each undo would bring back, what the tape would tell. */
    static String whole(List<String> steps, boolean withFaults) {
        Called now = after(steps);
        StringBuilder all = new StringBuilder(now.state()).append(withFaults ? now.faults() : "");
        long acts = now.call("about(8)");
        for (int back = 1; back <= acts; back++) {
            Called then = after(steps);
            for (int i = 0; i < back; i++) {
                then.call("undo()");
            }
            all.append("undone ").append(back).append(": ").append(then.state());
        }
        Called told = after(steps);
        all.append("text ").append(told.call("text()")).append(", ").append(told.faults()).append(told.state());
        return all.toString();
    }
}

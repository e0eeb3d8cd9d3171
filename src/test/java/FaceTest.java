import java.lang.reflect.Constructor;
import java.lang.reflect.Field;
import java.lang.reflect.Method;
import java.lang.reflect.Modifier;
import java.nio.file.Files;
import java.nio.file.Path;
import java.util.ArrayList;
import java.util.Arrays;
import java.util.List;
import java.util.Set;
import java.util.TreeSet;
import java.util.regex.Matcher;
import java.util.regex.Pattern;

/** The face of the class, and what of LANGUAGE.md can be seen from outside. */
public final class FaceTest {
    private static final String[] FACE = {"feed 5", "end 1", "text 0", "fault 1", "about 1", "shop 2", "load 2",
        "stock 2", "lost 2", "of 2", "empty 1", "bears 2", "waits 2", "chance 4", "rounds 1", "round 3", "aboard 3",
        "miles 1", "together 2", "savings 2", "share 3", "peak 1", "cost 1", "costOf 1", "worth 2", "truck 1",
        "reach 0", "scaled 1", "alone 2", "every 2", "joint 1", "visit 2", "rule 1", "better 1", "tune 1", "least 0",
        "clear 0", "rush 3", "undo 0"};
    private static final String[] BARRED = {"\\bthrow\\b", "\\btry\\b", "\\bcatch\\b", "\\bsynchronized\\b",
        "\\bassert\\b", "->", "::", "\\bdouble\\b", "\\bfloat\\b", "\\brecord\\b", "Exact\\(", "\\bthrows\\b",
        "\\bSystem\\.(?!arraycopy)", "\\bMath\\.(?!abs|max|min)", "\\bArrays\\.(?!fill)", "\\bInteger\\.(?!bitCount)",
        "\\bLong\\b", "\\bCharacter\\b", "\\bvar\\b", "\\bprotected\\b", "while \\(true\\)", "for \\(;;"};

    private final Check check = new Check();

    private void face() {
        Class<?> type = ShelfDrives.class;
        check.due("public final", Modifier.isPublic(type.getModifiers()) && Modifier.isFinal(type.getModifiers()), true);
        Set<String> methods = new TreeSet<>();
        for (Method m : type.getDeclaredMethods()) {
            if (Modifier.isPrivate(m.getModifiers())) {
                check.due("private " + m.getName() + " bears another name",
                    Arrays.stream(FACE).anyMatch(f -> f.startsWith(m.getName() + " ")), false);
                continue;
            }
            methods.add(m.getName() + " " + m.getParameterCount());
            check.due(m + " is public", Modifier.isPublic(m.getModifiers()) && !Modifier.isStatic(m.getModifiers()), true);
            check.due(m + " answers", m.getReturnType() == (m.getName().equals("undo") ? boolean.class : int.class), true);
            check.due(m + " takes ints", Arrays.stream(m.getParameterTypes()).allMatch(p -> p == int.class), true);
        }
        check.due("the methods", methods.equals(new TreeSet<>(List.of(FACE))), true);
        for (Field f : type.getDeclaredFields()) {
            check.due(f + " is private", Modifier.isPrivate(f.getModifiers()), !f.getName().equals("NONE"));
        }
        Constructor<?>[] made = type.getDeclaredConstructors();
        check.due("constructors", made.length, 1);
        check.due("constructor", Modifier.isPublic(made[0].getModifiers()) && made[0].getParameterCount() == 0, true);
    }

    private void sizes() {
        List<Class<?>> types = new ArrayList<>(List.of(ShelfDrives.class.getDeclaredClasses()));
        types.add(ShelfDrives.class);
        check.due("classes", types.size() <= 12, true);
        for (Class<?> type : types) {
            boolean inner = type == ShelfDrives.class;
            check.due(type + " is static", inner || Modifier.isStatic(type.getModifiers()), true);
            long fields = Arrays.stream(type.getDeclaredFields()).filter(f -> !Modifier.isStatic(f.getModifiers())).count();
            check.due(type + " has few fields", fields <= 20, true);
            for (Field f : type.getDeclaredFields()) {
                check.due(f + " static is final", Modifier.isStatic(f.getModifiers()) && !Modifier.isFinal(f.getModifiers()),
                    false);
            }
            for (Method m : type.getDeclaredMethods()) {
                check.due(m + " takes seven at most", m.getParameterCount() <= 7, true);
                check.due(m + " bears no public name", type != ShelfDrives.class
                    && Arrays.stream(FACE).anyMatch(f -> f.startsWith(m.getName() + " ")), false);
            }
        }
    }

    private static String bare(String source) {
        return source.replaceAll("(?s)/\\*.*?\\*/", "").replaceAll("//[^\n]*", "").replaceAll("\"[^\"\n]*\"", "\"\"");
    }

    private void words(String source) {
        for (String barred : BARRED) {
            Matcher m = Pattern.compile(barred).matcher(source);
            check.due("no " + barred, m.find(), false);
        }
        Matcher imports = Pattern.compile("import ([^;]+);").matcher(source);
        while (imports.find()) {
            check.due("import " + imports.group(1), imports.group(1).equals("java.util.Arrays"), true);
        }
        for (String line : source.split("\n")) {
            boolean makes = line.contains("new ");
            check.due("made once, as a field: " + line.trim(), !makes || line.matches(" +(private )?final .*= new .*"), true);
        }
    }

    private void lengths(String source) {
        int from = 0;
        int at = 0;
        for (String line : source.split("\n")) {
            at++;
            if (line.matches("( {4}| {8})[a-zA-Z].*\\) \\{")) {
                from = at;
            } else if (line.matches("( {4}| {8})\\}") && from > 0) {
                check.due("method behind line " + from + " is short", at - from <= 60, true);
                from = 0;
            }
        }
    }

    public static void main(String[] args) throws Exception {
        FaceTest test = new FaceTest();
        test.face();
        test.sizes();
        String source = Files.readString(Path.of(args.length > 0 ? args[0] : "src/main/java/ShelfDrives.java"));
        test.words(bare(source));
        test.lengths(source);
        test.check.end();
    }
}

import java.lang.reflect.Constructor;
import java.lang.reflect.Field;
import java.lang.reflect.Method;
import java.lang.reflect.Modifier;
import java.nio.file.Files;
import java.nio.file.Path;
import java.util.HashMap;
import java.util.List;
import java.util.Map;
import java.util.Set;
import java.util.TreeSet;
import java.util.regex.Matcher;
import java.util.regex.Pattern;

/** Those rules of LANGUAGE.md that can be seen from the text of the class and from its face. */
public final class LanguageTest {
    private static final Check check = new Check("language");
    private static final String[] FACE = {
        "feed:5", "back:1", "read:0", "place:0", "use:1", "contact:2", "flaw:1", "settles:4", "shows:4", "start:2", "reached:2",
        "races:2", "bad:2", "badAct:3", "singles:0", "pairs:1", "pair:2", "least:1", "leastAct:2", "hidden:0", "suite:0",
        "suiteAct:2", "suiteActs:0", "unlike:2", "safe:3", "plan:3", "stage:4", "log:3", "annul:1", "fits:2", "suspects:1",
        "next:1", "set:2", "strap:2", "age:2", "round:0", "clash:0", "hand:1", "count:1"};

    public static void main(String[] args) throws Exception {
        String text = Files.readString(Path.of("src/main/java/RelayHut.java"));
        face();
        classes();
        words(withoutComments(text));
        lengths(text);
        depths(withoutComments(text));
        check.end();
    }

    private static void due(String rule, boolean holds) {
        check.due(rule, holds, true);
    }

    private static String withoutComments(String text) {
        return text.replaceAll("(?s)/\\*.*?\\*/", "").replaceAll("//[^\n]*", "").replaceAll("\"[^\"\n]*\"", "\"\"");
    }

    private static void face() {
        Set<String> found = new TreeSet<>();
        for (Method m : RelayHut.class.getDeclaredMethods()) {
            if (m.isSynthetic()) continue;
            if (Modifier.isPublic(m.getModifiers())) found.add(m.getName() + ":" + m.getParameterCount());
            else due("1 private: " + m.getName(), Modifier.isPrivate(m.getModifiers()));
        }
        due("1 face: " + found, found.equals(new TreeSet<>(List.of(FACE))));
        for (Field f : RelayHut.class.getDeclaredFields())
            due("1 field " + f.getName(), Modifier.isPrivate(f.getModifiers()) || f.getName().equals("NONE"));
        Constructor<?>[] made = RelayHut.class.getDeclaredConstructors();
        due("1 constructor", made.length == 1 && Modifier.isPublic(made[0].getModifiers()) && made[0].getParameterCount() == 0);
        due("1 public final", Modifier.isPublic(RelayHut.class.getModifiers()) && Modifier.isFinal(RelayHut.class.getModifiers()));
    }

    private static void classes() {
        Set<String> publicNames = new TreeSet<>();
        for (String f : FACE) publicNames.add(f.split(":")[0]);
        Class<?>[] inside = RelayHut.class.getDeclaredClasses();
        due("11 classes: " + inside.length, inside.length < 13);
        for (Class<?> c : inside) {
            due("2 static: " + c, Modifier.isStatic(c.getModifiers()) && !Modifier.isPublic(c.getModifiers()));
            int fields = 0;
            for (Field f : c.getDeclaredFields()) {
                if (Modifier.isStatic(f.getModifiers())) {
                    due("5 constant " + f, Modifier.isFinal(f.getModifiers()) && Set.of(int.class, long.class, boolean.class, char.class, String.class).contains(f.getType()));
                } else {
                    fields++;
                }
            }
            due("11 fields of " + c + ": " + fields, fields <= 20);
            for (Method m : c.getDeclaredMethods()) {
                due("1 name of " + m, !publicNames.contains(m.getName()));
                due("11 parameters of " + m, m.getParameterCount() <= 7);
            }
        }
    }

    private static void words(String code) {
        for (String word : new String[] {"throw", "throws", "try", "catch", "synchronized", "assert", "this::", "->", "::", "Exact",
            "System.out", "System.exit", "nanoTime", "Random", "while (true)", "for (;;)", "hashCode", "toString", "package ", "Object"}) {
            due("no " + word, !Pattern.compile("(?<![A-Za-z])" + Pattern.quote(word)).matcher(code).find());
        }
        Matcher imports = Pattern.compile("import ([^;]*);").matcher(code);
        while (imports.find()) due("4 import " + imports.group(1), imports.group(1).equals("java.util.Arrays"));
        Matcher library = Pattern.compile("\\b(Arrays|System|Math|Integer|Long)\\.(\\w+)").matcher(code);
        Set<String> allowed = Set.of("Arrays.fill", "Arrays.copyOf", "System.arraycopy", "Math.min", "Math.max", "Integer.bitCount",
            "Long.bitCount");
        while (library.find()) due("4 " + library.group(), allowed.contains(library.group()));
    }

    /** The methods of the text: their names, first lines and last lines, found by their indents. */
    private static void lengths(String text) {
        String[] lines = text.split("\n");
        int from = -1;
        String indent = "";
        for (int i = 0; i < lines.length; i++) {
            Matcher head = Pattern.compile("^( {4}| {8})[A-Za-z].*\\) \\{$").matcher(lines[i]);
            if (from < 0 && head.find()) {
                from = i;
                indent = head.group(1);
            } else if (from >= 0 && lines[i].equals(indent + "}")) {
                due("11 length of " + lines[from].trim() + ": " + (i - from), i - from < 60);
                from = -1;
            }
        }
    }

    /** How deep the calls go; no two methods have one name, so that names alone tell it, and none is recursive. */
    private static void depths(String code) {
        Map<String, Set<String>> calls = new HashMap<>();
        Set<String> current = new TreeSet<>();
        for (String line : code.split("\n")) {
            Matcher head = Pattern.compile("^(?: {4}| {8})(?!if|for|while|switch|return|else)[A-Za-z].*?(\\w+)\\([^=]*\\) \\{$").matcher(line);
            if (head.find()) {
                current = new TreeSet<>();
                due("one method named " + head.group(1), calls.put(head.group(1), current) == null);
                continue;
            }
            if (line.matches(" {4}(    )?}")) current = new TreeSet<>();
            Matcher call = Pattern.compile("(\\w+)\\(").matcher(line);
            while (call.find()) current.add(call.group(1));
        }
        for (String f : FACE) {
            String name = f.split(":")[0];
            int depth = depth(name, calls, 0);
            due("11 depth of " + name + ": " + depth, depth > 0 && depth <= 7);
        }
    }

    private static int depth(String name, Map<String, Set<String>> calls, int above) {
        if (!calls.containsKey(name)) return 0;
        int deepest = 0;
        for (String callee : calls.get(name)) {
            deepest = above > 20 ? 100 : Math.max(deepest, depth(callee, calls, above + 1));
        }
        return deepest + 1;
    }
}

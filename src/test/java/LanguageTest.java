import java.lang.reflect.Field;
import java.lang.reflect.Modifier;
import java.nio.file.Files;
import java.nio.file.Path;
import java.util.ArrayList;
import java.util.HashMap;
import java.util.HashSet;
import java.util.List;
import java.util.Map;
import java.util.Set;
import java.util.TreeMap;

/** Rules of LANGUAGE.md that can be seen in the compiled classes: the library, recursion, how deep calls go. */
public final class LanguageTest {
    private static final Set<String> STRING = Set.of(
        "length", "charAt", "isEmpty", "equals", "indexOf", "substring", "toCharArray", "<init>");
    private static final Set<String> BUILDER = Set.of(
        "<init>", "append", "charAt", "setCharAt", "setLength", "deleteCharAt", "reverse", "length", "toString");
    private static final Set<String> LIST = Set.of(
        "<init>", "add", "get", "set", "remove", "size", "isEmpty", "clear", "iterator", "of");
    private static final Set<String> ARRAYS = Set.of("copyOf", "copyOfRange", "fill");
    private static final int MOST_DEEP = 8;
    private static final int MOST_LINES = 60;

    private static final Map<String, Compiled.Method> METHODS = new TreeMap<>();

    public static void main(String[] args) throws Exception {
        List<Class<?>> types = new ArrayList<>(List.of(RaftHold.class.getDeclaredClasses()));
        types.add(RaftHold.class);
        for (Class<?> type : types) {
            for (Compiled.Method method : Compiled.of(type).methods) {
                METHODS.put(method.name, method);
            }
            staticFields(type);
        }
        Check.holds("methods were found", METHODS.size() > 100);
        for (Compiled.Method method : METHODS.values()) {
            library(method);
            noExceptions(method);
            recursion(method);
            int deep = depth(method.name, new HashSet<>(), new HashMap<>());
            Check.holds(method.name + " goes " + deep + " calls deep", deep <= MOST_DEEP);
        }
        shortMethods();
        Check.end();
    }

    /** Rule 5. */
    private static void staticFields(Class<?> type) {
        Set<Class<?>> fine = Set.of(int.class, long.class, boolean.class, char.class, String.class,
            int[].class, long[].class, char[].class, byte[].class);
        for (Field f : type.getDeclaredFields()) {
            if (Modifier.isStatic(f.getModifiers())) {
                Check.holds(f + " is final", Modifier.isFinal(f.getModifiers()));
                Check.holds(f + " is of a type that statics may have", fine.contains(f.getType()));
            }
        }
    }

    /** Rule 4. */
    private static void library(Compiled.Method method) {
        for (String call : method.calls) {
            if (!METHODS.containsKey(call)) {
                Check.holds(method.name + " calls " + call, isInLibrary(call));
            }
        }
    }

    private static boolean isInLibrary(String call) {
        String type = call.substring(0, call.indexOf('.'));
        String name = call.substring(call.indexOf('.') + 1, call.indexOf('('));
        switch (type) {
            case "java/lang/Object":
                return name.equals("<init>");
            case "java/lang/String":
                return STRING.contains(name);
            case "java/lang/StringBuilder":
                return BUILDER.contains(name);
            case "java/util/ArrayList":
            case "java/util/List":
                return LIST.contains(name);
            case "java/lang/Integer":
            case "java/lang/Long":
            case "java/lang/Math":
                return !name.endsWith("Exact") && !name.equals("random");
            case "java/util/Arrays":
                return ARRAYS.contains(name);
            case "java/lang/System":
                return name.equals("arraycopy");
            default:
                return type.startsWith("[") && name.equals("clone");
        }
    }

    /** Rule 6. */
    private static void noExceptions(Compiled.Method method) {
        Check.due(method.name + ": handlers", method.handlers, 0);
        for (int banned : new int[] {Compiled.ATHROW, Compiled.MONITOR_ENTER, Compiled.MONITOR_EXIT,
            Compiled.INVOKE_DYNAMIC}) {
            Check.holds(method.name + " is without opcode " + banned, !method.opcodes.contains(banned));
        }
    }

    /** Rule 8: only a private static method calls itself, only private ones call one another. */
    private static void recursion(Compiled.Method method) {
        if (method.calls.contains(method.name)) {
            Check.holds(method.name + " calls itself and is private static", method.isPrivate() && method.isStatic());
        }
        Set<String> reached = new HashSet<>();
        for (String call : method.calls) {
            reach(call, reached);
        }
        if (reached.contains(method.name)) {
            Check.holds(method.name + " comes back to itself and is private", method.isPrivate());
        }
    }

    private static void reach(String name, Set<String> reached) {
        Compiled.Method method = METHODS.get(name);
        if (method != null && reached.add(name)) {
            for (String call : method.calls) {
                reach(call, reached);
            }
        }
    }

    /** Rule 11; a call that is already open is recursion and counts once. */
    private static int depth(String name, Set<String> open, Map<String, Integer> known) {
        Compiled.Method method = METHODS.get(name);
        if (method == null || !open.add(name)) {
            return 0;
        }
        if (!known.containsKey(name)) {
            int deepest = 0;
            for (String call : method.calls) {
                deepest = Math.max(deepest, depth(call, open, known));
            }
            known.put(name, deepest + 1);
        }
        open.remove(name);
        return known.get(name);
    }

    /** Rule 11: what stands between a head and its closing brace, by their indentation. */
    private static void shortMethods() throws Exception {
        Path root = Path.of(System.getProperty("raft.root", "."));
        List<String> lines = Files.readAllLines(root.resolve("src/main/java/RaftHold.java"));
        int found = 0;
        for (int i = 0; i < lines.size(); i++) {
            String line = lines.get(i);
            String indent = line.substring(0, line.length() - line.stripLeading().length());
            if (line.endsWith(") {") && (indent.length() == 4 || indent.length() == 8)
                    && line.matches(" +[A-Za-z][A-Za-z\\[\\] ]* ?\\w+\\(.*\\) \\{") && !line.matches(" +(for|if|while|switch) .*")) {
                int end = i;
                while (end < lines.size() && !lines.get(end).equals(indent + "}")) {
                    end++;
                }
                Check.holds(line.strip() + " is short", end - i <= MOST_LINES);
                found++;
            }
        }
        Check.holds("heads of methods were found", found > 100);
    }
}

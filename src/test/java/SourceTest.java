import java.lang.reflect.Constructor;
import java.lang.reflect.Field;
import java.lang.reflect.Method;
import java.lang.reflect.Modifier;
import java.nio.file.Files;
import java.nio.file.Path;
import java.util.HashSet;
import java.util.List;
import java.util.Set;
import java.util.regex.Matcher;
import java.util.regex.Pattern;

/** Rules of LANGUAGE.md that can be seen in the source or in the class's face. */
public final class SourceTest {
    private static final String[] BANNED = {
        "\\bthrow\\b", "\\btry\\b", "\\bcatch\\b", "\\bsynchronized\\b", "\\bassert\\b", "->", "::",
        "\\bprotected\\b", "Exact\\b", "\\bpackage\\b", "\\bMath\\.random\\b", "\\bRandom\\b",
        "\\bThread\\b", "\\bSystem\\.(?!arraycopy\\b)", "\\bhashCode\\b", "\\bstatic\\s*\\{", "\\bvar\\b"};

    public static void main(String[] args) throws Exception {
        Path root = Path.of(System.getProperty("raft.root", "."));
        String source = Files.readString(root.resolve("src/main/java/RaftHold.java"));
        String code = source.replaceAll("(?s)/\\*.*?\\*/", "").replaceAll("//[^\n]*", "")
            .replaceAll("\"[^\"\n]*\"", "\"\"");
        for (String banned : BANNED) {
            Check.holds("no " + banned, !Pattern.compile(banned).matcher(code).find());
        }
        Matcher imports = Pattern.compile("import ([^;]*);").matcher(code);
        while (imports.find()) {
            Check.holds("import " + imports.group(1),
                List.of("java.util.Arrays", "java.util.ArrayList", "java.util.List").contains(imports.group(1)));
        }
        for (int i = 0; i < source.length(); i++) {
            if (source.charAt(i) > 126) {
                Check.holds("signs of the source", false);
            }
        }
        face();
        Check.end();
    }

    private static void face() {
        Class<?> type = RaftHold.class;
        Check.holds("public final", Modifier.isPublic(type.getModifiers()) && Modifier.isFinal(type.getModifiers()));
        Set<String> open = new HashSet<>();
        for (Method m : type.getDeclaredMethods()) {
            if (Modifier.isPublic(m.getModifiers())) {
                open.add(m.getName());
            }
        }
        Check.due("public methods", open.size(), 46);
        Set<String> closed = new HashSet<>();
        privateNames(type, closed);
        Class<?>[] inside = type.getDeclaredClasses();
        Check.holds("some twelve classes", inside.length + 1 <= 12);
        for (Class<?> c : inside) {
            Check.holds(c + " is static", Modifier.isStatic(c.getModifiers()));
            Check.holds(c + " has some twenty fields", instanceFields(c) <= 20);
            privateNames(c, closed);
        }
        Check.holds("some twenty fields", instanceFields(type) <= 20);
        for (String name : closed) {
            Check.holds(name + " is no public method's name", !open.contains(name));
        }
        for (Field f : type.getDeclaredFields()) {
            Check.holds(f + " is private", Modifier.isPrivate(f.getModifiers()) || f.getName().equals("NONE"));
        }
        for (Constructor<?> c : type.getDeclaredConstructors()) {
            Check.holds("one open constructor", Modifier.isPublic(c.getModifiers()) && c.getParameterCount() == 0);
        }
    }

    private static int instanceFields(Class<?> type) {
        int found = 0;
        for (Field f : type.getDeclaredFields()) {
            found += Modifier.isStatic(f.getModifiers()) ? 0 : 1;
        }
        return found;
    }

    private static void privateNames(Class<?> type, Set<String> names) {
        for (Method m : type.getDeclaredMethods()) {
            if (!Modifier.isPublic(m.getModifiers())) {
                names.add(m.getName());
            }
            Check.holds(m + " takes at most seven", m.getParameterCount() <= 7);
        }
    }
}

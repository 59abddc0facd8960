import java.io.IOException;
import java.lang.reflect.Array;
import java.lang.reflect.Constructor;
import java.lang.reflect.Field;
import java.lang.reflect.Method;
import java.lang.reflect.Modifier;
import java.nio.file.Files;
import java.nio.file.Path;
import java.util.ArrayDeque;
import java.util.Collections;
import java.util.HashSet;
import java.util.IdentityHashMap;
import java.util.Set;
import java.util.TreeSet;
import java.util.regex.Matcher;
import java.util.regex.Pattern;

/** What can be seen of ../shared/LANGUAGE.md by looking at the text and at the compiled classes. */
public final class LanguageTest {
    private static final Set<String> FACE = Set.of("feed", "end", "office", "fault", "has", "letter", "person", "stock", "kept",
        "writings", "writing", "greedy", "shortest", "cheapest", "makes", "anew", "mend", "fills", "later", "served", "left",
        "cuts", "feast", "odds", "see", "stocks", "tells", "cut", "bake", "serve", "days", "chance", "undo", "seed", "ask",
        "image", "octet", "on", "status");

    public static void main(String[] args) throws IOException, IllegalAccessException {
        String source = Files.readString(Path.of("src/main/java/UnlikeLoaves.java"));
        words(source);
        face();
        classes();
        methodLengths(source);
        room(source);
        Office.end();
    }

    /** "A run lives in one room": an object is small, and no call makes another. */
    private static void room(String source) throws IllegalAccessException {
        int[] made = size(new UnlikeLoaves());
        Office.due("objects and arrays, " + made[0], made[0] < 250, true);
        Office.due("fields and elements, " + made[1], made[1] < 16000, true);
        for (String line : source.split("\n")) {
            boolean inCall = line.contains("new ") && !line.trim().startsWith("*") && !line.trim().startsWith("//");
            boolean field = line.matches(" +(static |private |final )*[\\w\\[\\]]+ \\w+ = new .*;");
            Office.due("made in a call: " + line.trim(), inCall && !field && !line.contains("states[i] = new State();"), false);
        }
    }

    private static int[] size(Object root) throws IllegalAccessException {
        Set<Object> seen = Collections.newSetFromMap(new IdentityHashMap<>());
        ArrayDeque<Object> open = new ArrayDeque<>(Set.of(root));
        int elements = 0;
        while (!open.isEmpty()) {
            Object x = open.pop();
            if (!seen.add(x)) {
                continue;
            }
            if (x.getClass().isArray()) {
                elements += Array.getLength(x);
                for (int i = 0; x instanceof Object[] && i < Array.getLength(x); i++) {
                    open.push(Array.get(x, i));
                }
                continue;
            }
            for (Field f : x.getClass().getDeclaredFields()) {
                if (!Modifier.isStatic(f.getModifiers())) {
                    elements++;
                    f.setAccessible(true);
                    Object inside = f.getType().isPrimitive() ? null : f.get(x);
                    if (inside != null) {
                        open.push(inside);
                    }
                }
            }
        }
        return new int[] {seen.size(), elements};
    }

    private static void words(String source) {
        String code = source.replaceAll("(?s)/\\*.*?\\*/", " ").replaceAll("//[^\n]*", " ").replaceAll("\"[^\"\n]*\"", " ");
        String[] banned = {"throw", "throws", "try", "catch", "finally", "synchronized", "assert", "import", "package", "Object",
            "Exception", "->", "::", "System\\.(?!arraycopy)", "Exact", "volatile", "transient", "native", "var", "protected"};
        for (String word : banned) {
            boolean letters = Character.isLetter(word.charAt(0)) && !word.endsWith(")");
            Matcher m = Pattern.compile(letters ? "\\b" + word + "\\b" : word).matcher(code);
            Office.due("'" + word + "' stands in the text", m.find(), false);
        }
        Office.due("signs beyond 126", source.chars().anyMatch(c -> c > 126), false);
    }

    private static void face() {
        Set<String> found = new TreeSet<>();
        for (Method m : UnlikeLoaves.class.getDeclaredMethods()) {
            if (Modifier.isPublic(m.getModifiers())) {
                found.add(m.getName());
                Office.due("a face's parameters of " + m.getName(), m.getParameterCount() <= 5, true);
            } else {
                Office.due("private " + m.getName(), Modifier.isPrivate(m.getModifiers()) && !FACE.contains(m.getName()), true);
            }
        }
        Office.due("the face is whole", found.equals(FACE), true);
        for (Field f : UnlikeLoaves.class.getDeclaredFields()) {
            boolean constant = f.getName().equals("NONE") || f.getName().equals("NOTHING");
            Office.due("field " + f.getName(), constant ? Modifier.isPublic(f.getModifiers()) : Modifier.isPrivate(f.getModifiers()), true);
        }
        Constructor<?>[] made = UnlikeLoaves.class.getDeclaredConstructors();
        Office.due("constructors", made.length == 1 && Modifier.isPublic(made[0].getModifiers()), true);
    }

    private static void classes() {
        Class<?>[] inside = UnlikeLoaves.class.getDeclaredClasses();
        Office.due("classes", inside.length + 1 <= 12, true);
        Set<Class<?>> all = new HashSet<>(Set.of(inside));
        all.add(UnlikeLoaves.class);
        for (Class<?> c : all) {
            Office.due(c + " is static", c == UnlikeLoaves.class || Modifier.isStatic(c.getModifiers()), true);
            int fields = 0;
            for (Field f : c.getDeclaredFields()) {
                boolean still = Modifier.isStatic(f.getModifiers());
                fields += still ? 0 : 1;
                Office.due(c + " " + f.getName(), !still || Modifier.isFinal(f.getModifiers()), true);
            }
            Office.due(c + " has few fields", fields <= 20, true);
            for (Method m : c.getDeclaredMethods()) {
                Office.due(c + " " + m.getName(), m.getParameterCount() <= 7, true);
                Office.due(c + " " + m.getName() + " bears a name of the face", c != UnlikeLoaves.class && FACE.contains(m.getName()), false);
            }
        }
    }

    private static void methodLengths(String source) {
        int from = 0;
        int longest = 0;
        String[] lines = source.split("\n");
        for (int i = 0; i < lines.length; i++) {
            if (lines[i].matches("( {4}| {8})\\S.*\\) \\{")) {
                from = i;
            }
            if (lines[i].matches(" {4}\\}| {8}\\}")) {
                longest = Math.max(longest, i - from + 1);
                from = i;
            }
        }
        Office.due("lines of the longest method are " + longest, longest <= 60, true);
    }
}

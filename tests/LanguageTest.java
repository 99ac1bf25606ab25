import java.io.IOException;
import java.lang.reflect.Array;
import java.lang.reflect.Constructor;
import java.lang.reflect.Field;
import java.lang.reflect.Method;
import java.lang.reflect.Modifier;
import java.nio.file.Files;
import java.nio.file.Path;
import java.util.ArrayList;
import java.util.IdentityHashMap;
import java.util.List;
import java.util.Set;
import java.util.TreeSet;
import java.util.regex.Matcher;
import java.util.regex.Pattern;

/** The public face, and what of ../shared/LANGUAGE.md can be seen in the source by its words. */
public final class LanguageTest {
    private static final Set<String> FACE = new TreeSet<>(List.of("int feed(int,int,int,int,int)", "int back(int)", "int read()",
        "int place()", "int hears(int,int,int)", "int news(int,int,int)", "int drum(int,int,boolean)", "int may(int,int,boolean)",
        "int drummed(int,int)", "int night()", "int run(int)", "boolean undo()", "int byRule(int,int)", "int agreed(int,int,int,int)",
        "int talk(int)", "int bestOrder(int,int)", "int quiet(int,int,int)", "int soonest(int,int)", "int all(int)", "int drums(int)",
        "int loophole(int,int,int)", "int loopholeAt(int,int,int,int)", "int clashes(int)", "int sure(int,int,int,int)",
        "int tell(int,int,int)", "int forget()", "int beginners(int,int)", "boolean hold(int)", "boolean restore(int)", "int count(int)"));

    private LanguageTest() {
    }

    private static String signature(Method method) {
        StringBuilder s = new StringBuilder(method.getReturnType() + " " + method.getName() + "(");
        for (int i = 0; i < method.getParameterCount(); i++) {
            s.append(i > 0 ? "," : "").append(method.getParameterTypes()[i]);
        }
        return s.append(")").toString();
    }

    private static void face() {
        Set<String> shown = new TreeSet<>();
        Set<String> names = new TreeSet<>();
        for (Method method : HillDrums.class.getDeclaredMethods()) {
            if (Modifier.isPublic(method.getModifiers())) {
                shown.add(signature(method));
                names.add(method.getName());
            } else {
                Check.due(method + " is private", Modifier.isPrivate(method.getModifiers()), true);
            }
        }
        Check.due("the face is the document's: " + shown, shown.equals(FACE), true);
        Check.due("public and final", Modifier.isPublic(HillDrums.class.getModifiers()) && Modifier.isFinal(HillDrums.class.getModifiers()), true);
        Check.due("constructors", HillDrums.class.getDeclaredConstructors().length, 1);
        for (Constructor<?> made : HillDrums.class.getDeclaredConstructors()) {
            Check.due("one without arguments", made.getParameterCount(), 0);
        }
        for (Field field : HillDrums.class.getDeclaredFields()) {
            Check.due(field + " is hidden", Modifier.isPrivate(field.getModifiers()) || field.getName().equals("NONE"), true);
            Check.due(field + " is no static state", !Modifier.isStatic(field.getModifiers()) || Modifier.isFinal(field.getModifiers()), true);
        }
        for (Class<?> inside : HillDrums.class.getDeclaredClasses()) {
            Check.due(inside + " is static and hidden", Modifier.isStatic(inside.getModifiers()) && !Modifier.isPublic(inside.getModifiers()), true);
            for (Method method : inside.getDeclaredMethods()) {
                Check.due(method + " has a name of its own", names.contains(method.getName()), false);
                Check.due(method + " takes seven at most", method.getParameterCount() <= 7, true);
            }
            int fields = 0;
            for (Field field : inside.getDeclaredFields()) {
                fields += Modifier.isStatic(field.getModifiers()) ? 0 : 1;
            }
            Check.due(inside + " has some twenty fields", fields <= 20, true);
        }
        Check.due("some twelve classes", HillDrums.class.getDeclaredClasses().length + 1 <= 12, true);
    }

    private static int count(String source, String pattern) {
        Matcher m = Pattern.compile(pattern).matcher(source);
        int found = 0;
        while (m.find()) {
            found++;
        }
        return found;
    }

    private static void words(String source) {
        String bare = source.replaceAll("/\\*\\*(?s:.*?)\\*/", "").replaceAll("//.*", "").replaceAll("\"[^\"\n]*\"", "\"\"").replaceAll("'.'", "' '");
        for (String word : new String[] {"throw", "throws", "try", "catch", "synchronized", "assert", "package", "protected", "import static",
            "volatile", "transient", "native", "var", "->", "::", "Exact\\(", "System\\.(?!arraycopy)", "Thread", "@", "Object", "toString",
            "equals", "hashCode"}) {
            Check.due("the word " + word, count(bare, word.matches("[a-z ]+") ? "\\b" + word + "\\b" : word), 0);
        }
        Check.due("imports", count(bare, "\\bimport\\b"), count(bare, "import java\\.util\\.Arrays;"));
        Check.due("signs above 126", count(source, "[^\\n\\x20-\\x7e]"), 0);
        Check.due("joined texts", count(bare, "\"\" *\\+|\\+ *\"\""), 0);
    }

    /** What is made is made by fields and constructors: no call makes anything. */
    private static void made(List<String> lines) {
        int inConstructor = 0;
        for (String line : lines) {
            if (line.matches(" +(public|private) [A-Z][A-Za-z]*\\(.*\\{")) {
                inConstructor = 1;
            } else if (line.matches(" {4,8}}")) {
                inConstructor = 0;
            }
            if (line.contains("new ") && !line.trim().startsWith("/") && !line.trim().startsWith("*")) {
                Check.due("made in a field or constructor: " + line, inConstructor == 1 || line.matches(" +private .*= new .*;"), true);
            }
        }
    }

    /** Objects and arrays in cell 0, their fields and elements in cell 1, of all that an object holds. */
    private static void weigh(Object held, IdentityHashMap<Object, Boolean> seen, long[] room) throws IllegalAccessException {
        if (held == null || seen.put(held, true) != null) {
            return;
        }
        room[0]++;
        if (held.getClass().isArray()) {
            room[1] += Array.getLength(held);
            for (int i = 0; i < Array.getLength(held) && !held.getClass().getComponentType().isPrimitive(); i++) {
                weigh(Array.get(held, i), seen, room);
            }
            return;
        }
        for (Field field : held.getClass().getDeclaredFields()) {
            if (!Modifier.isStatic(field.getModifiers())) {
                room[1]++;
                field.setAccessible(true);
                if (!field.getType().isPrimitive()) {
                    weigh(field.get(held), seen, room);
                }
            }
        }
    }

    /** Even a run that makes a new object by each of 512 calls stays within 600,000 objects and 7,300,000 elements. */
    private static void room() throws IllegalAccessException {
        long[] room = new long[2];
        weigh(new HillDrums(), new IdentityHashMap<>(), room);
        Check.due(room[0] + " objects and arrays", 512 * room[0] <= 600000, true);
        Check.due(room[1] + " fields and elements", 512 * room[1] <= 7300000, true);
    }

    private static void lengths(List<String> lines) {
        int from = -1;
        for (int i = 0; i < lines.size(); i++) {
            if (lines.get(i).matches(" +(public|private) [^=;]*\\) \\{")) {
                from = i;
            } else if (from >= 0 && lines.get(i).matches(" {4,8}}")) {
                Check.due("some sixty lines from " + (from + 1), i - from + 1 <= 60, true);
                from = -1;
            }
        }
    }

    public static void main(String[] args) throws IOException, IllegalAccessException {
        Path file = Path.of("src/main/java/HillDrums.java");
        List<String> lines = new ArrayList<>(Files.readAllLines(file));
        face();
        room();
        words(Files.readString(file));
        made(lines);
        lengths(lines);
        Check.end();
    }
}

import java.io.IOException;
import java.lang.reflect.Constructor;
import java.lang.reflect.Field;
import java.lang.reflect.Method;
import java.lang.reflect.Modifier;
import java.nio.charset.StandardCharsets;
import java.nio.file.Files;
import java.nio.file.Path;
import java.util.ArrayList;
import java.util.HashMap;
import java.util.HashSet;
import java.util.List;
import java.util.Map;
import java.util.Set;
import java.util.TreeSet;
import java.util.regex.Matcher;
import java.util.regex.Pattern;

/** What of LANGUAGE.md can be seen from the source and the compiled class. */
public final class LanguageTest {
    private static final Set<String> FACE = new TreeSet<>(List.of("feed", "end", "parish", "rule", "force", "well", "farm",
            "lie", "year", "wed", "pour", "dig", "birth", "undo", "fewest", "step", "lies", "farthest", "comes", "rings",
            "ahead", "dry", "home", "heir", "depths", "tastes", "rests", "pence", "note", "ruled", "look", "seed",
            "droughts", "count", "image", "back"));

    public static void main(String[] args) throws IOException {
        face();
        classes();
        source();
        Checks.close("LanguageTest");
    }

    private static void due(String what, boolean so) {
        Checks.check(what, so ? 1 : 0, 1);
    }

    private static void face() {
        Set<String> seen = new TreeSet<>();
        for (Method m : WellSwap.class.getDeclaredMethods()) {
            if (Modifier.isPublic(m.getModifiers())) {
                seen.add(m.getName());
                due(m.getName() + " answers an int", m.getReturnType() == int.class);
            } else {
                due(m.getName() + " is private", Modifier.isPrivate(m.getModifiers()));
            }
        }
        due("the methods of the face and no others", seen.equals(FACE));
        for (Field f : WellSwap.class.getDeclaredFields()) {
            due(f.getName() + " is private", Modifier.isPrivate(f.getModifiers()) || f.getName().equals("NONE"));
        }
        Constructor<?>[] made = WellSwap.class.getDeclaredConstructors();
        due("one constructor", made.length == 1 && made[0].getParameterCount() == 0);
        due("final", Modifier.isFinal(WellSwap.class.getModifiers()));
    }

    private static void classes() {
        Class<?>[] inside = WellSwap.class.getDeclaredClasses();
        due("at most twelve classes", inside.length + 1 <= 12);
        for (Class<?> c : inside) {
            due(c.getName() + " is static", Modifier.isStatic(c.getModifiers()));
            due(c.getName() + " has few fields", fields(c) <= 20);
            for (Method m : c.getDeclaredMethods()) {
                due(m.getName() + " bears no name of the face", !FACE.contains(m.getName()));
                due(m.getName() + " takes at most seven", m.getParameterCount() <= 7);
            }
        }
        due("WellSwap has few fields", fields(WellSwap.class) <= 20);
    }

    private static int fields(Class<?> c) {
        int many = 0;
        for (Field f : c.getDeclaredFields()) {
            many += Modifier.isStatic(f.getModifiers()) ? 0 : 1;
            due(f.getName() + " is no static state", !Modifier.isStatic(f.getModifiers())
                    || Modifier.isFinal(f.getModifiers()));
        }
        return many;
    }

    private static void source() throws IOException {
        String text = Files.readString(Path.of("src/main/java/WellSwap.java"), StandardCharsets.ISO_8859_1);
        for (int i = 0; i < text.length(); i++) {
            if (text.charAt(i) > 126) {
                due("plain signs alone", false);
            }
        }
        String code = text.replaceAll("(?s)/\\*.*?\\*/", "").replaceAll("//[^\n]*", "")
                .replaceAll("\"[^\"\n]*\"", "\"\"").replaceAll("'[^'\n]*'", "' '");
        for (String word : List.of("throw", "throws", "try", "catch", "finally", "synchronized", "assert", "import",
                "package", "native", "volatile", "transient", "Object", "hashCode", "toString", "protected", "double",
                "float", "var")) {
            due("no " + word, !Pattern.compile("\\b" + word + "\\b").matcher(code).find());
        }
        for (String sign : List.of("->", "::", "...", "@", "static {")) {
            due("no " + sign, !code.contains(sign));
        }
        Set<String> library = new HashSet<>(List.of("Math.min", "Math.max", "Integer.bitCount", "System.arraycopy",
                "NAMES.length", "NAMES.charAt", "SIGNS.indexOf"));
        Matcher calls = Pattern.compile("\\b[A-Z]\\w*\\.\\w+(?=\\()").matcher(code);
        while (calls.find()) {
            due(calls.group() + " is allowed", library.contains(calls.group()));
        }
        longMethods(code);
        deepCalls(code);
    }

    /** Calls stand at most eight deep, a method that is called again from within itself taken once. */
    private static void deepCalls(String code) {
        Map<String, String> bodies = bodies(code);
        Map<String, List<String>> calls = new HashMap<>();
        for (String method : bodies.keySet()) {
            calls.put(method, called(method, bodies));
        }
        due("the methods of the source are found", bodies.keySet().containsAll(List.of("WellSwap.look", "Years.pass",
                "Rule.combine")) && calls.get("WellSwap.look").contains("Foresight.tasteAll"));
        for (String name : FACE) {
            int deep = depth("WellSwap." + name, calls, new ArrayList<>());
            due(name + " goes " + deep + " deep", deep <= 8);
        }
    }

    /** By class and name what stands in each method. */
    private static Map<String, String> bodies(String code) {
        Map<String, String> bodies = new HashMap<>();
        String[] lines = code.split("\n");
        String in = "WellSwap";
        String method = null;
        for (String line : lines) {
            Matcher nested = Pattern.compile("^    \\w[\\w ]*class (\\w+).*\\{").matcher(line);
            if (nested.find()) {
                in = nested.group(1);
            }
            String indent = in.equals("WellSwap") ? "    " : "        ";
            Matcher head = Pattern.compile("^" + indent + "\\w[^=(]* (\\w+)\\([^=]*\\) \\{").matcher(line);
            if (head.find()) {
                method = in + "." + head.group(1);
                bodies.put(method, "");
            } else if (line.equals(indent + "}")) {
                method = null;
            } else if (method != null) {
                bodies.merge(method, line + "\n", String::concat);
            } else if (line.equals("    }")) {
                in = "WellSwap";
            }
        }
        return bodies;
    }

    /** A call with a name ahead of its point may be one of any other class that has such a method. */
    private static List<String> called(String method, Map<String, String> bodies) {
        String own = method.substring(0, method.indexOf('.') + 1);
        List<String> found = new ArrayList<>();
        Matcher call = Pattern.compile("(\\.?)\\b(\\w+)\\(").matcher(bodies.get(method));
        while (call.find()) {
            String name = "." + call.group(2);
            for (String other : bodies.keySet()) {
                boolean sameClass = other.startsWith(own);
                if (other.endsWith(name) && sameClass == call.group(1).isEmpty()) {
                    found.add(other);
                }
            }
        }
        return found;
    }

    private static int depth(String method, Map<String, List<String>> calls, List<String> open) {
        int most = 0;
        open.add(method);
        for (String next : calls.get(method)) {
            if (!open.contains(next)) {
                most = Math.max(most, depth(next, calls, open));
            }
        }
        open.remove(method);
        return most + 1;
    }

    private static void longMethods(String code) {
        int opened = -1;
        String[] lines = code.split("\n");
        for (int i = 0; i < lines.length; i++) {
            String inner = lines[i].startsWith("        ") ? lines[i].substring(4) : lines[i];
            if (inner.matches("    \\w[^=]*\\) \\{")) {
                opened = i;
            } else if (inner.matches("    \\}") && opened >= 0) {
                due("a short method at line " + opened, i - opened <= 60);
            }
        }
    }
}

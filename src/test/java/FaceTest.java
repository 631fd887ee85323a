import java.io.IOException;
import java.lang.reflect.Constructor;
import java.lang.reflect.Executable;
import java.lang.reflect.Field;
import java.lang.reflect.Method;
import java.lang.reflect.Modifier;
import java.nio.file.Files;
import java.nio.file.Path;
import java.util.Set;
import java.util.StringJoiner;
import java.util.TreeSet;

/** 'The public face': the class has every constant, constructor and method that the document shows, and no others. */
public final class FaceTest {
    private static final Path DOCUMENT = Path.of("../shared/DOC.md");

    public static void main(String[] args) throws ReflectiveOperationException, IOException {
        Set<String> shown = shown();
        Set<String> seen = seen();
        for (String member : shown) {
            due("the class has " + member, seen.contains(member));
        }
        for (String member : seen) {
            due("the document shows " + member, shown.contains(member));
        }
        // The class, its constant, its constructor and its methods: were the document read amiss, none would be missed.
        Checks.check("members that the document shows", shown.size(), 1 + 1 + 1 + 36);
        Checks.close("FaceTest");
    }

    private static void due(String what, boolean so) {
        Checks.check(what, so ? 1 : 0, 1);
    }

    /** The lines of the document's face, without the names of parameters. */
    private static Set<String> shown() throws IOException {
        String document = Files.readString(DOCUMENT);
        int from = document.indexOf("```java", document.indexOf("## The public face"));
        String face = document.substring(from, document.indexOf("```", from + 3));
        Set<String> members = new TreeSet<>();
        for (String line : face.split("\n")) {
            String member = line.strip().replaceAll("[;{]$", "").strip();
            if (member.startsWith("public")) {
                members.add(member.replaceAll("(int|long|boolean) \\w+(?=[,)])", "$1"));
            }
        }
        return members;
    }

    /** All members that are not private, told as the document tells its own. */
    private static Set<String> seen() throws ReflectiveOperationException {
        Set<String> members = new TreeSet<>();
        members.add(Modifier.toString(WellSwap.class.getModifiers()) + " class " + WellSwap.class.getName());
        for (Field f : WellSwap.class.getDeclaredFields()) {
            if (!Modifier.isPrivate(f.getModifiers())) {
                members.add(Modifier.toString(f.getModifiers()) + " " + f.getType() + " " + f.getName() + " = " + f.get(null));
            }
        }
        for (Constructor<?> c : WellSwap.class.getDeclaredConstructors()) {
            if (!Modifier.isPrivate(c.getModifiers())) {
                members.add(head(c) + c.getName() + parameters(c));
            }
        }
        for (Method m : WellSwap.class.getDeclaredMethods()) {
            if (!Modifier.isPrivate(m.getModifiers())) {
                members.add(head(m) + m.getReturnType() + " " + m.getName() + parameters(m) + thrown(m));
            }
        }
        for (Class<?> c : WellSwap.class.getDeclaredClasses()) {
            if (Modifier.isPublic(c.getModifiers()) || Modifier.isProtected(c.getModifiers())) {
                members.add("class " + c.getName());
            }
        }
        return members;
    }

    private static String head(Executable e) {
        return Modifier.toString(e.getModifiers()) + " ";
    }

    private static String parameters(Executable e) {
        StringJoiner all = new StringJoiner(", ", "(", ")");
        for (Class<?> type : e.getParameterTypes()) {
            all.add(type.getName());
        }
        return all.toString();
    }

    private static String thrown(Executable e) {
        return e.getExceptionTypes().length == 0 ? "" : " throws";
    }
}

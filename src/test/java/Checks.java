import java.lang.reflect.Method;
import java.util.ArrayList;
import java.util.Arrays;
import java.util.HashMap;
import java.util.List;
import java.util.Map;

/** What the tests share: an object that is called by name, and answers that are due. */
final class Checks {
    /** One call that was made. */
    record Call(String name, int[] args) { }

    private static final Map<String, Method> FACE = new HashMap<>();
    private static int wrong;
    private static int right;
    /** The sentence of the document that is held against the class now. */
    private static String sentence = "";
    final WellSwap swap = new WellSwap();
    private final List<Call> history = new ArrayList<>();

    static {
        for (Method m : WellSwap.class.getDeclaredMethods()) {
            if (java.lang.reflect.Modifier.isPublic(m.getModifiers())) {
                FACE.put(m.getName(), m);
            }
        }
    }

    /** What is checked from here on is this sentence, or part of one, in the words of the document. */
    static void says(String words) {
        sentence = words;
    }

    /** All calls once more, on a new object. */
    static Checks again(List<Call> calls) {
        Checks c = new Checks();
        for (Call call : calls) {
            c.call(call.name, call.args);
        }
        return c;
    }

    /** One that has of all: a PARISH, RULES, one IN FORCE, NOTES, ACTS, IMAGES, x, and a text on the TAPE. */
    static Checks rich() {
        Checks c = new Checks();
        c.parish("parish 3 1;well 0 4 30;well 1 2 0;well 2 9 12;farm 0 2 3;farm 1 1 4;kin 0 1;kin 1 2");
        c.rule("wed sweet-sour").rule("wed groom if year%2=0");
        c.due(-1, "force", 0).due(0, "seed", 7).due(1, "note", 0, 0, 10).due(1, "year").due(1, "image", 1);
        c.due(6, "dig", 0, 2).due(2, "pour", 1, 1).due(0, "wed", 2, 1).due(2, "birth", 2).due(1, "image", 3);
        return c.due(2, "note", 0, 1, 20).tell("parish 2 5;kin 0 1");
    }

    int call(String name, int... args) {
        history.add(new Call(name, args.clone()));
        Object[] boxed = Arrays.stream(args).boxed().toArray();
        try {
            return (Integer) FACE.get(name).invoke(swap, boxed);
        } catch (ReflectiveOperationException e) {
            throw new IllegalStateException(name + Arrays.toString(args), e);
        }
    }

    /** The answer of a call is due. */
    Checks due(int want, String name, int... args) {
        check(name + Arrays.toString(args), call(name, args), want);
        return this;
    }

    /** The answer of a call is due, and nothing has happened by it. */
    Checks still(int want, String name, int... args) {
        List<Call> without = new ArrayList<>(history);
        due(want, name, args);
        alike("behind " + name + Arrays.toString(args), without);
        return this;
    }

    /** A text is refused for its FAULT, and nothing has happened but that the TAPE is empty. */
    Checks faulty(String name, int place, int kind) {
        List<Call> without = new ArrayList<>(history);
        without.add(new Call("end", new int[] {0}));
        due(-2 - (1 + 8 * place + kind), name);
        alike("behind a faulty " + name, without);
        return this;
    }

    /** All is as it would be by these calls. */
    private void alike(String when, List<Call> calls) {
        String got = Seen.by(history);
        String want = Seen.by(calls);
        if (!got.equals(want)) {
            System.out.println("seen " + got + "\ndue  " + want);
        }
        check("all is alike " + when, got.equals(want) ? 1 : 0, 1);
    }

    /** A text comes onto the TAPE, whatever is on it. */
    Checks tell(String text) {
        int before = call("count", 12);
        for (int at = 0; at < text.length(); at += 20) {
            int[] fives = new int[5];
            for (int i = 0; i < 20; i++) {
                int sign = at + i < text.length() ? text.charAt(at + i) : 0;
                fives[i / 4] = fives[i / 4] << 8 | sign;
            }
            call("feed", fives);
        }
        call("end", before + text.length());
        return this;
    }

    Checks parish(String text) {
        tell(text);
        int farms = call("parish");
        check("parish of " + text, farms > 0 ? 1 : farms, 1);
        return this;
    }

    Checks rule(String text) {
        tell(text);
        int number = call("rule");
        check("rule of " + text, number >= 0 ? 1 : number, 1);
        return this;
    }

    /** The FAULT of a PARISH at that place, of that kind. */
    static void parishFault(String text, int place, int kind) {
        Checks c = new Checks().tell(text);
        check("parish fault of '" + text + "'", c.call("parish"), -2 - (1 + 8 * place + kind));
    }

    static void ruleFault(String text, int place, int kind) {
        Checks c = new Checks().tell(text);
        check("rule fault of '" + text + "'", c.call("rule"), -2 - (1 + 8 * place + kind));
    }

    static void check(String what, int got, int want) {
        if (got == want) {
            right++;
        } else {
            wrong++;
            System.out.println((sentence.isEmpty() ? "" : "'" + sentence + "': ") + what + " answered " + got + ", due is " + want);
        }
    }

    static void close(String name) {
        System.out.println(name + ": " + right + " passed, " + wrong + " failed");
        if (wrong != 0) {
            System.exit(1);
        }
    }
}

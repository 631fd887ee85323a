import java.lang.reflect.Method;
import java.util.Arrays;
import java.util.HashMap;
import java.util.Map;

/** What the tests share: an object that is called by name, and answers that are due. */
final class Checks {
    private static final Map<String, Method> FACE = new HashMap<>();
    private static int wrong;
    private static int right;
    final WellSwap swap = new WellSwap();

    static {
        for (Method m : WellSwap.class.getDeclaredMethods()) {
            if (java.lang.reflect.Modifier.isPublic(m.getModifiers())) {
                FACE.put(m.getName(), m);
            }
        }
    }

    int call(String name, int... args) {
        Object[] boxed = Arrays.stream(args).boxed().toArray();
        try {
            return (Integer) FACE.get(name).invoke(swap, boxed);
        } catch (ReflectiveOperationException e) {
            throw new IllegalStateException(name + Arrays.toString(args), e);
        }
    }

    /** The answer of a call is due. */
    Checks due(int want, String name, int... args) {
        check(name + Arrays.toString(args), call(name, args), want);
        return this;
    }

    /** A text comes onto the TAPE, whatever is on it. */
    Checks tell(String text) {
        int before = call("count", 12);
        for (int at = 0; at < text.length(); at += 20) {
            int[] fives = new int[5];
            for (int i = 0; i < 20; i++) {
                int sign = at + i < text.length() ? text.charAt(at + i) : 0;
                fives[i / 4] = fives[i / 4] << 8 | sign;
            }
            call("feed", fives);
        }
        call("end", before + text.length());
        return this;
    }

    Checks parish(String text) {
        tell(text);
        int farms = call("parish");
        check("parish of " + text, farms > 0 ? 1 : farms, 1);
        return this;
    }

    Checks rule(String text) {
        tell(text);
        int number = call("rule");
        check("rule of " + text, number >= 0 ? 1 : number, 1);
        return this;
    }

    /** The FAULT of a PARISH at that place, of that kind. */
    static void parishFault(String text, int place, int kind) {
        Checks c = new Checks().tell(text);
        check("parish fault of '" + text + "'", c.call("parish"), -2 - (1 + 8 * place + kind));
    }

    static void ruleFault(String text, int place, int kind) {
        Checks c = new Checks().tell(text);
        check("rule fault of '" + text + "'", c.call("rule"), -2 - (1 + 8 * place + kind));
    }

    static void check(String what, int got, int want) {
        if (got == want) {
            right++;
        } else {
            wrong++;
            System.out.println(what + " answered " + got + ", due is " + want);
        }
    }

    static void close(String name) {
        System.out.println(name + ": " + right + " passed, " + wrong + " failed");
        if (wrong != 0) {
            System.exit(1);
        }
    }
}

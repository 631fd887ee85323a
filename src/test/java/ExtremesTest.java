import java.util.Arrays;
import java.util.List;

/**
 * Each call with numbers at, next to and far beyond all boundaries, in any mixture, with and without a PARISH: the class
 * answers as the Oracle does, and never throws.
 */
public final class ExtremesTest {
    private static final int LEAST = Integer.MIN_VALUE;
    private static final int MOST = Integer.MAX_VALUE;
    private static final int[] ALL = {LEAST, LEAST + 1, -256, -129, -2, -1, 0, 1, 2, 5, 6, 7, 8, 9, 10, 12, 13, 20, 21, 30,
        31, 32, 33, 40, 41, 60, 61, 64, 100, 101, 255, 256, 400, 401, 998, 999, 1000, 9999, 10000, 65536, 1234567, 7654321,
        MOST - 1, MOST};
    private static final int[] FARMS = {LEAST, -1, 0, 1, 2, 6, 7, 32, MOST};
    private static final int[] WHATS = {LEAST, -1, 0, 1, 2, 3, 4, MOST};
    private static final int[] LIES = {LEAST, -21, 0, 12, 21, 11, 123, 321, 1234567, 7654321, 1234568, MOST};
    private static final List<String> TEXTS = List.of("", "parish 2 0;kin 0 1",
            "parish 3 1;well 0 4 30;well 1 2 0;well 2 9 12;farm 0 2 3;farm 1 1 4;kin 0 1;kin 1 2",
            "parish 7 0;kin 0 1;kin 1 2;kin 2 3;kin 3 4;kin 4 5;kin 5 6;kin 6 0;well 3 30 60;farm 3 5 9");
    private Checks checks;
    private Oracle oracle;

    public static void main(String[] args) {
        for (String parish : TEXTS) {
            new ExtremesTest().callAll(parish);
        }
        Checks.close("ExtremesTest");
    }

    private void callAll(String parish) {
        for (String name : List.of("end", "force", "birth", "fewest", "lies", "farthest", "rings", "dry", "ruled", "seed",
                "count", "image", "back")) {
            call(parish, name, ALL);
        }
        for (String name : List.of("well", "farm", "wed", "comes", "depths", "tastes")) {
            call(parish, name, FARMS, FARMS);
        }
        for (String name : List.of("pour", "dig")) {
            call(parish, name, FARMS, ALL);
        }
        call(parish, "pence", ALL, FARMS);
        call(parish, "heir", ALL, WHATS);
        call(parish, "look", ALL, WHATS);
        call(parish, "step", LIES, new int[] {LEAST, -1, 0, 1, 5, 20, 21, MOST}, WHATS);
        call(parish, "ahead", FARMS, new int[] {LEAST, -1, 0, 1, 99, 100, 101, MOST}, WHATS);
        call(parish, "note", new int[] {LEAST, -2, 0, 60, 61, MOST}, FARMS, new int[] {LEAST, -1, 0, 60, 61, MOST});
        call(parish, "rests", FARMS, FARMS, new int[] {LEAST, 0, 1, 20, 21, MOST}, WHATS);
        call(parish, "droughts", new int[] {LEAST, 0, 1, 10, 11, MOST}, new int[] {LEAST, 0, 1, 60, 61, MOST},
                new int[] {LEAST, -1, 0, 50, 100, 101, MOST}, WHATS);
        int[] bytes = {LEAST, -1, 0, 0x20202020, MOST};
        call(parish, "feed", bytes, bytes, bytes, bytes, bytes);
    }

    private void call(String parish, String name, int[]... each) {
        checks = new Checks();
        oracle = new Oracle();
        tell(parish, "parish");
        tell("wed sweet-sour+1 if year%3<2", "rule");
        tell("wed groom*year if not [dry=1 or heirs<3]", "rule");
        same("image", 0);
        same("year");
        same("force", 1);
        same("image", 1);
        same("year");
        mix(name, each, new int[each.length], 0);
        same("lie");
        same("year");
        for (int what = 0; what < 13; what++) {
            same("count", what);
        }
    }

    private void mix(String name, int[][] each, int[] args, int at) {
        if (at == each.length) {
            same(name, args);
            return;
        }
        for (int number : each[at]) {
            args[at] = number;
            mix(name, each, args, at + 1);
        }
    }

    private void same(String name, int... args) {
        Checks.check(name + Arrays.toString(args), checks.call(name, args), oracle.call(name, args));
    }

    private void tell(String text, String name) {
        for (int at = 0; at < text.length(); at += 20) {
            int[] fives = new int[5];
            for (int i = 0; i < 20; i++) {
                fives[i / 4] = fives[i / 4] << 8 | (at + i < text.length() ? text.charAt(at + i) : 0);
            }
            same("feed", fives);
        }
        same("end", text.length());
        same(name);
    }
}

import java.util.ArrayList;
import java.util.Arrays;
import java.util.List;
import java.util.Random;

/** Runs of drawn calls: the class and the Oracle must answer alike. */
public final class OracleTest {
    private static final String[] WORDS = {"bride", "groom", "hers", "his", "sweet", "sour", "full", "low", "heirs",
        "home", "dry", "year"};
    private static final String[] SIGNS = {"<", "<=", "=", ">=", ">"};
    private static final String[] PIECES = {"wed", "if", "or", "and", "not", "[", "]", "<", "<=", "=", ">", ">=", "+",
        "-", "*", "/", "%", ";", " ", "7", "123456", "00000", "sweet", "home", "parish", "well", "farm", "kin", "x", "A",
        "\u00e9", "0", "1", "2"};
    private final Random random;
    private final Checks checks = new Checks();
    private final Oracle oracle = new Oracle();
    private final List<String> calls = new ArrayList<>();

    private OracleTest(long seed) {
        random = new Random(seed);
    }

    public static void main(String[] args) {
        int runs = args.length > 0 ? Integer.parseInt(args[0]) : 300;
        long from = args.length > 1 ? Long.parseLong(args[1]) : 0;
        boolean alike = true;
        for (long seed = from; alike && seed < from + runs; seed++) {
            alike = new OracleTest(seed).run(seed);
        }
        for (long seed = from; alike && seed < from + runs / 15; seed++) {
            alike = together(seed);
        }
        Checks.close("OracleTest");
    }

    private boolean run(long seed) {
        int many = 120 + random.nextInt(390);
        begin();
        while (calls.size() < many) {
            if (!act()) {
                return tellWrong(seed);
            }
        }
        return true;
    }

    /** Four objects by turns, each for the 512 calls that the document leaves it: none sees what another one was told. */
    private static boolean together(long seed) {
        OracleTest[] all = new OracleTest[4];
        for (int i = 0; i < all.length; i++) {
            all[i] = new OracleTest(31 * seed + i);
            all[i].begin();
        }
        // Some acts make no call, so there are more turns than calls.
        for (int turn = 0; turn < 2 * 512; turn++) {
            for (OracleTest one : all) {
                if (one.calls.size() < 512 && !one.act()) {
                    return one.tellWrong(seed);
                }
            }
        }
        return true;
    }

    private void begin() {
        if (random.nextInt(8) > 0) {
            tell(parishText(true));
            same("parish");
        }
        for (int i = among(0, 3); i > 0; i--) {
            tell(ruleText());
            same("rule");
        }
        same("force", among(-1, 2));
    }

    private boolean tellWrong(long seed) {
        System.out.println("seed " + seed + ", the last calls:");
        for (int i = Math.max(0, calls.size() - 60); i < calls.size(); i++) {
            System.out.println("  " + calls.get(i));
        }
        return false;
    }

    private boolean same(String name, int... args) {
        int want = oracle.call(name, args);
        int got = checks.call(name, args);
        calls.add(name + Arrays.toString(args) + " " + got);
        Checks.check(name + Arrays.toString(args), got, want);
        return got == want;
    }

    private int among(int least, int most) {
        return least + random.nextInt(most - least + 1);
    }

    /** Mostly within, at times just outside. */
    private int about(int least, int most) {
        return random.nextInt(12) == 0 ? (random.nextBoolean() ? least - 1 : most + 1) : among(least, most);
    }

    private boolean tell(String text) {
        if (random.nextInt(25) != 0 && !same("end", 0)) {
            return false;
        }
        int before = checks.call("count", 12);
        for (int at = 0; at < text.length(); at += 20) {
            int[] fives = new int[5];
            for (int i = 0; i < 20; i++) {
                fives[i / 4] = fives[i / 4] << 8 | (at + i < text.length() ? text.charAt(at + i) : 0);
            }
            if (!same("feed", fives)) {
                return false;
            }
        }
        return same("end", before + text.length());
    }

    private boolean act() {
        int what = random.nextInt(60);
        int farms = Math.max(1, checks.call("count", 0));
        int f = about(0, farms - 1);
        int g = about(0, farms - 1);
        switch (what) {
            case 0: return tell(spoilt(parishText(random.nextBoolean()))) && same("parish");
            case 1: return same("dry", f) && same("home");
            case 2: return same("depths", f, among(0, 1));
            case 3:
            case 4: return tell(spoilt(ruleText())) && same("rule");
            case 5: return same("force", about(-1, Math.max(0, checks.call("count", 2) - 1)));
            case 6:
            case 7: return same("well", f, about(0, 3));
            case 8:
            case 9: return same("farm", f, about(0, 3));
            case 10: return same("lie");
            case 11:
            case 12:
            case 13:
            case 14: return same("year");
            case 15:
            case 16:
            case 17: return same("wed", f, g);
            case 18: return same("pour", f, about(1, 30));
            case 19: return same("dig", f, about(1, 9));
            case 20: return same("birth", f);
            case 21: return same("undo");
            case 22: return same("fewest", drawnLie());
            case 23:
            case 24: return same("step", drawnLie(), about(0, 8), about(0, 1));
            case 25: return same("lies", random.nextBoolean() ? about(0, 30) : about(0, 9));
            case 26:
            case 27: return same("farthest", about(0, 1));
            case 28: return same("comes", f, g);
            case 29: return same("rings", about(0, 1));
            case 30:
            case 31:
            case 32: return same("ahead", f, about(0, 100), about(0, 3));
            case 33: return same("dry", f);
            case 34: return same("home");
            case 35:
            case 36: return same("heir", about(1, 40), about(0, 1));
            case 37: return same("depths", f, about(0, 1));
            case 38: return same("tastes", f, about(0, 1));
            case 39:
            case 40: return same("rests", f, g, about(1, 20), about(0, 2));
            case 41:
            case 42: return same("pence", random.nextBoolean() ? about(0, 9999) : about(0, 20), f);
            case 43: return same("note", about(0, 60), f, about(0, 60));
            case 44:
            case 45: return noteTruly();
            case 46: return same("ruled", about(0, 1));
            case 47: return same("look", about(0, 60), about(0, 1));
            case 48: return same("seed", random.nextBoolean() ? random.nextInt() : random.nextInt(5) - 1);
            case 49:
            case 50: return same("droughts", about(1, 10), about(1, 60), about(0, 100), about(0, 1));
            case 51:
            case 52: return same("count", about(0, 12));
            case 53: return same("image", about(0, 3));
            case 54: return random.nextInt(3) > 0 || same("back", about(0, 3));
            case 55: return same("note", random.nextInt(4) == 0 ? -1 : about(0, 3), f, about(0, 60));
            case 56: return checkAll();
            case 57: return same("end", about(0, 400));
            case 58: return same("tastes", f, about(0, 1)) && same("ruled", about(0, 1)) && same("look", about(0, 60), 1);
            default: return manyYears();
        }
    }

    private boolean manyYears() {
        int n = among(1, 30);
        for (int i = 0; i < n; i++) {
            if (!same("year")) {
                return false;
            }
        }
        return true;
    }

    private boolean checkAll() {
        boolean all = same("lie");
        for (int i = 0; i < 13 && all; i++) {
            all = same("count", i);
        }
        for (int i = 0; i < 28 && all; i++) {
            all = same("well", i / 4, i % 4) && same("farm", i / 4, i % 4);
        }
        return all;
    }

    /** A NOTE that is so by one of the RULES. */
    private boolean noteTruly() {
        int farms = checks.call("count", 0);
        if (farms == 0) {
            return true;
        }
        int n = among(0, 60);
        Oracle.Now t = oracle.behind(random.nextInt(3) == 0 ? checks.call("count", 3) : among(-1, checks.call("count", 2) - 1), n);
        int farm = among(0, farms - 1);
        return same("note", n, farm, t.taste[t.has[farm]]);
    }

    private int drawnLie() {
        int farms = checks.call("count", 0);
        int kind = random.nextInt(10);
        if (kind == 0) {
            return random.nextInt();
        }
        if (kind == 1 || farms == 0) {
            return random.nextInt(8000000);
        }
        List<Integer> digits = new ArrayList<>();
        for (int i = 1; i <= farms; i++) {
            digits.add(i);
        }
        java.util.Collections.shuffle(digits, random);
        int number = 0;
        for (int d : digits) {
            number = number * 10 + d;
        }
        return number;
    }

    private String spoilt(String text) {
        StringBuilder s = new StringBuilder(text);
        int times = random.nextInt(3) == 0 ? among(1, 2) : 0;
        for (int i = 0; i < times; i++) {
            int at = random.nextInt(s.length() + 1);
            if (random.nextBoolean() && at < s.length()) {
                s.deleteCharAt(at);
            } else {
                s.insert(at, PIECES[random.nextInt(PIECES.length)]);
            }
        }
        s.setLength(Math.min(s.length(), 400));
        return s.toString();
    }

    private String blank() {
        return random.nextInt(4) == 0 ? "  " : " ";
    }

    private String parishText(boolean good) {
        int farms = random.nextInt(4) == 0 ? among(6, 7) : among(2, 5);
        StringBuilder s = new StringBuilder("parish " + farms + blank() + (random.nextBoolean() ? among(0, 1) : among(0, 9)));
        int clauses = random.nextInt(30) == 0 ? among(37, good ? 39 : 41) : among(6, 22);
        for (int i = 0; i < clauses; i++) {
            s.append(random.nextInt(3) == 0 ? " ;" : ";");
            int a = among(0, farms - 1);
            int b = (a + among(1, farms - 1)) % farms;
            if (clauses > 30) {
                s.append("kin").append(a).append(' ').append(b);
                continue;
            }
            switch (random.nextInt(5)) {
                case 0: s.append("well " + a + blank() + (good ? among(1, 30) : about(1, 30)) + " "
                        + (good ? among(0, 60) : about(0, 60))); break;
                case 1: s.append("farm" + a + blank() + (good ? among(0, 5) : about(0, 5)) + " "
                        + (good ? among(0, 9) : about(0, 9))); break;
                default: s.append("kin " + a + " " + b); break;
            }
        }
        if (good) {
            s.setLength(s.length() > 400 ? s.lastIndexOf(";", 400) : s.length());
        }
        s.setLength(Math.min(s.length(), 400));
        return s.toString();
    }

    private String value() {
        return random.nextInt(3) == 0 ? String.valueOf(random.nextInt(random.nextBoolean() ? 10 : 99999))
                : WORDS[random.nextInt(WORDS.length)];
    }

    private String sum() {
        StringBuilder s = new StringBuilder(value());
        int more = random.nextInt(4);
        for (int i = 0; i < more; i++) {
            s.append(random.nextBoolean() ? " " : "").append("+-*/%".charAt(random.nextInt(5))).append(' ').append(value());
        }
        return s.toString();
    }

    private String test(int deep) {
        StringBuilder s = new StringBuilder(fact(deep));
        int more = random.nextInt(3);
        for (int i = 0; i < more; i++) {
            s.append(random.nextBoolean() ? " and " : " or ").append(fact(deep));
        }
        return s.toString();
    }

    private String fact(int deep) {
        int kind = random.nextInt(5);
        if (kind == 0) {
            return "not " + fact(deep + 1);
        }
        if (kind == 1 && deep < 12) {
            return random.nextInt(4) == 0 ? "[".repeat(among(1, 11)) + "1<2" + "]".repeat(among(1, 11))
                    : "[" + test(deep + 1) + "]";
        }
        return sum() + " " + SIGNS[random.nextInt(5)] + sum();
    }

    private String ruleText() {
        StringBuilder s = new StringBuilder();
        int clauses = random.nextInt(30) == 0 ? among(11, 13) : among(1, 4);
        for (int i = 0; i < clauses; i++) {
            s.append(i == 0 ? "" : ";").append("wed ").append(sum());
            if (clauses < 11 && random.nextInt(3) > 0) {
                s.append(" if ").append(test(0));
            }
        }
        s.setLength(Math.min(s.length(), 400));
        return s.toString();
    }
}

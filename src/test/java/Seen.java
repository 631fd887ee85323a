import java.util.List;

/**
 * All that can be seen of an object behind a row of calls, as a text. To look further changes it, so each part is
 * looked at on an object of its own, on which the calls are made once more.
 */
final class Seen {
    private final StringBuilder text = new StringBuilder();
    private Checks on;

    private Seen() {
    }

    static String by(List<Checks.Call> calls) {
        Seen seen = new Seen();
        seen.on = Checks.again(calls);
        seen.now();
        seen.noted();
        seen.rules();
        seen.on = Checks.again(calls);
        seen.undone();
        for (int k = 0; k < 4; k++) {
            seen.on = Checks.again(calls);
            seen.image(k);
        }
        seen.on = Checks.again(calls);
        seen.ask("parish");
        seen.now();
        seen.on = Checks.again(calls);
        seen.ask("rule");
        seen.rules();
        return seen.text.toString();
    }

    private void ask(String name, int... args) {
        text.append(on.call(name, args)).append(' ');
    }

    private void now() {
        text.append("| ");
        for (int what = 0; what <= 12; what++) {
            ask("count", what);
        }
        ask("lie");
        int farms = on.call("count", 0);
        for (int i = 0; i < 4 * farms; i++) {
            ask("well", i / 4, i % 4);
            ask("farm", i / 4, i % 4);
        }
    }

    private void noted() {
        text.append("| ");
        ask("ruled", 0);
        ask("ruled", 1);
        for (int what = 0; what <= 1; what++) {
            ask("depths", 0, what);
            ask("depths", 1, what);
            ask("tastes", 0, what);
            ask("tastes", 1, what);
        }
        ask("lies", 30);
        ask("fewest", 123);
        ask("droughts", 2, 5, 50, 1);
    }

    /** How it goes on by each of the RULES. */
    private void rules() {
        text.append("| ");
        int many = on.call("count", 2);
        for (int rule = -1; rule < many; rule++) {
            ask("force", rule);
            for (int n = 1; n <= 6; n++) {
                ask("ahead", 0, n, 0);
                ask("ahead", 0, n, 2);
            }
        }
    }

    private void undone() {
        text.append("| ");
        for (int left = on.call("count", 10); left > 0; left--) {
            ask("undo");
            for (int what = 4; what <= 8; what++) {
                ask("count", what);
            }
            ask("lie");
            ask("well", 0, 0);
            ask("well", 1, 1);
            ask("farm", 0, 1);
        }
        ask("undo");
        now();
    }

    private void image(int k) {
        text.append("| ");
        ask("back", k);
        now();
        noted();
    }
}

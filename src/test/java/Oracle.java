import java.util.ArrayDeque;
import java.util.ArrayList;
import java.util.Arrays;
import java.util.Deque;
import java.util.HashMap;
import java.util.List;
import java.util.Map;
import java.util.TreeMap;
import java.util.function.ToLongFunction;

/**
 * The document once more, written for plainness and with the whole library, by other ways than the class takes:
 * texts are read byte by byte with exceptions, LIES are strings in maps, nothing is kept between calls.
 */
final class Oracle {
    static final class Fault extends RuntimeException {
        private static final long serialVersionUID = 1L;
        final int number;
        Fault(int place, int kind) {
            super(null, null, false, false);
            number = 1 + 8 * place + kind;
        }
    }

    static final class Told {
        int farms;
        int rain;
        int[] depth;
        int[] taste;
        int[] draws;
        int[] heirs;
        boolean[][] kin;
    }

    static final class Now {
        int[] depth;
        int[] taste;
        int[] water;
        int[] has;
        int[] heirs;
        int year;
        int[] drawn;
        boolean[] dug;

        Now copy() {
            Now n = new Now();
            n.depth = depth.clone();
            n.taste = taste.clone();
            n.water = water.clone();
            n.has = has.clone();
            n.heirs = heirs.clone();
            n.year = year;
            return n;
        }
    }

    record Note(int n, int farm, int taste) { }

    record Image(Told told, Now now, List<Note> notes, int force, int x) { }

    record Clause(ToLongFunction<Map<String, Long>> sum, ToLongFunction<Map<String, Long>> test) { }

    private static final List<String> WORDS = List.of("bride", "groom", "hers", "his", "sweet", "sour", "full", "low",
            "heirs", "home", "dry", "year");

    private final List<Integer> tape = new ArrayList<>();
    private Told told;
    private Now now;
    private final List<List<Clause>> rules = new ArrayList<>();
    private int force = -1;
    private int x;
    private List<Note> notes = new ArrayList<>();
    private final Deque<Now> undos = new ArrayDeque<>();
    private final Image[] images = new Image[4];

    int call(String name, int... a) {
        switch (name) {
            case "feed": return feed(a);
            case "end": return end(a[0]);
            case "parish": return parish();
            case "rule": return rule();
            case "force": return force(a[0]);
            case "well": return well(a[0], a[1]);
            case "farm": return farm(a[0], a[1]);
            case "lie": return told == null ? -1 : lieOf(now.has);
            case "year": return year();
            case "wed": return wed(a[0], a[1]);
            case "pour": return pour(a[0], a[1]);
            case "dig": return dig(a[0], a[1]);
            case "birth": return birth(a[0]);
            case "undo": return undo();
            case "fewest": return fewest(a[0]);
            case "step": return step(a[0], a[1], a[2]);
            case "lies": return lies(a[0]);
            case "farthest": return farthest(a[0]);
            case "comes": return comes(a[0], a[1]);
            case "rings": return rings(a[0]);
            case "ahead": return ahead(a[0], a[1], a[2]);
            case "dry": return dry(a[0]);
            case "home": return home();
            case "heir": return heir(a[0], a[1]);
            case "depths": return fitting(a[0], a[1], true);
            case "tastes": return fitting(a[0], a[1], false);
            case "rests": return rests(a[0], a[1], a[2], a[3]);
            case "pence": return pence(a[0], a[1]);
            case "note": return note(a[0], a[1], a[2]);
            case "ruled": return ruled(a[0]);
            case "look": return look(a[0], a[1]);
            case "seed": return seed(a[0]);
            case "droughts": return droughts(a[0], a[1], a[2], a[3]);
            case "count": return count(a[0]);
            case "image": return image(a[0]);
            case "back": return back(a[0]);
            default: throw new IllegalStateException(name);
        }
    }

    // ---- texts

    private int feed(int[] a) {
        if (tape.size() + 20 > 400) {
            return -1;
        }
        for (int v : a) {
            tape.add(v >>> 24);
            tape.add(v >>> 16 & 255);
            tape.add(v >>> 8 & 255);
            tape.add(v & 255);
        }
        return tape.size();
    }

    private int end(int n) {
        if (n < 0 || n > tape.size()) {
            return -1;
        }
        while (tape.size() > n) {
            tape.remove(tape.size() - 1);
        }
        return n;
    }

    private String takeTape() {
        StringBuilder s = new StringBuilder();
        for (int b : tape) {
            s.append((char) b);
        }
        tape.clear();
        return s.toString();
    }

    private int parish() {
        Told t;
        try {
            t = new Text(takeTape()).parish();
        } catch (Fault f) {
            return -2 - f.number;
        }
        told = t;
        now = begin(t);
        notes = new ArrayList<>();
        undos.clear();
        return t.farms;
    }

    private int rule() {
        if (rules.size() == 6) {
            return -1;
        }
        try {
            rules.add(new Text(takeTape()).rule());
        } catch (Fault f) {
            return -2 - f.number;
        }
        return rules.size() - 1;
    }

    private int force(int rule) {
        if (rule < -1 || rule >= rules.size()) {
            return -2;
        }
        int was = force;
        force = rule;
        return was;
    }

    private static final class Text {
        private final String s;
        private int at;
        private int values;

        Text(String s) {
            this.s = s;
        }

        private void blanks() {
            while (at < s.length() && s.charAt(at) == ' ') {
                at++;
            }
        }

        private String peekWord() {
            blanks();
            int to = at;
            while (to < s.length() && s.charAt(to) >= 'a' && s.charAt(to) <= 'z') {
                to++;
            }
            return s.substring(at, to);
        }

        private char peek() {
            blanks();
            return at < s.length() ? s.charAt(at) : '\0';
        }

        private boolean atEnd() {
            blanks();
            return at == s.length();
        }

        private int number(int least, int most, int but) {
            blanks();
            int to = at;
            while (to < s.length() && s.charAt(to) >= '0' && s.charAt(to) <= '9') {
                to++;
            }
            if (to == at) {
                throw new Fault(at, 0);
            }
            if (to - at > 5) {
                throw new Fault(at, 1);
            }
            int v = Integer.parseInt(s.substring(at, to));
            if (v < least || v > most || v == but) {
                throw new Fault(at, 1);
            }
            at = to;
            return v;
        }

        Told parish() {
            Told t = new Told();
            for (int clause = 0;; clause++) {
                String word = peekWord();
                if (!List.of("parish", "well", "farm", "kin").contains(word)) {
                    throw new Fault(at, 0);
                }
                if (clause == 40 || word.equals("parish") && clause > 0 || !word.equals("parish") && clause == 0) {
                    throw new Fault(at, 4);
                }
                at += word.length();
                if (word.equals("parish")) {
                    t.farms = number(2, 7, -1);
                    t.rain = number(0, 9, -1);
                    t.depth = filled(t.farms, 9);
                    t.taste = filled(t.farms, 0);
                    t.draws = filled(t.farms, 1);
                    t.heirs = filled(t.farms, 2);
                    t.kin = new boolean[t.farms][t.farms];
                } else {
                    int one = number(0, t.farms - 1, -1);
                    if (word.equals("well")) {
                        t.depth[one] = number(1, 30, -1);
                        t.taste[one] = number(0, 60, -1);
                    } else if (word.equals("farm")) {
                        t.draws[one] = number(0, 5, -1);
                        t.heirs[one] = number(0, 9, -1);
                    } else {
                        int other = number(0, t.farms - 1, one);
                        t.kin[one][other] = true;
                        t.kin[other][one] = true;
                    }
                }
                if (atEnd()) {
                    return t;
                }
                if (peek() != ';') {
                    throw new Fault(at, 0);
                }
                at++;
            }
        }

        private static int[] filled(int n, int v) {
            int[] a = new int[n];
            Arrays.fill(a, v);
            return a;
        }

        List<Clause> rule() {
            List<Clause> clauses = new ArrayList<>();
            while (true) {
                String word = peekWord();
                if (!word.equals("wed")) {
                    throw new Fault(at, 0);
                }
                if (clauses.size() == 12) {
                    throw new Fault(at, 4);
                }
                at += 3;
                ToLongFunction<Map<String, Long>> sum = sum();
                ToLongFunction<Map<String, Long>> test = w -> 1;
                if (peekWord().equals("if")) {
                    at += 2;
                    test = test(0);
                }
                clauses.add(new Clause(sum, test));
                if (atEnd()) {
                    return clauses;
                }
                if (peek() != ';') {
                    throw new Fault(at, 0);
                }
                at++;
            }
        }

        private ToLongFunction<Map<String, Long>> test(int deep) {
            List<ToLongFunction<Map<String, Long>>> parts = new ArrayList<>();
            parts.add(part(deep));
            while (peekWord().equals("or")) {
                at += 2;
                parts.add(part(deep));
            }
            return w -> parts.stream().anyMatch(p -> p.applyAsLong(w) != 0) ? 1 : 0;
        }

        private ToLongFunction<Map<String, Long>> part(int deep) {
            List<ToLongFunction<Map<String, Long>>> facts = new ArrayList<>();
            facts.add(fact(deep));
            while (peekWord().equals("and")) {
                at += 3;
                facts.add(fact(deep));
            }
            return w -> facts.stream().allMatch(p -> p.applyAsLong(w) != 0) ? 1 : 0;
        }

        private ToLongFunction<Map<String, Long>> fact(int deep) {
            if (peekWord().equals("not")) {
                if (deep == 10) {
                    throw new Fault(at, 2);
                }
                at += 3;
                ToLongFunction<Map<String, Long>> f = fact(deep + 1);
                return w -> f.applyAsLong(w) != 0 ? 0 : 1;
            }
            if (peek() == '[') {
                if (deep == 10) {
                    throw new Fault(at, 2);
                }
                at++;
                ToLongFunction<Map<String, Long>> t = test(deep + 1);
                if (peek() != ']') {
                    throw new Fault(at, 0);
                }
                at++;
                return t;
            }
            ToLongFunction<Map<String, Long>> left = sum();
            char sign = peek();
            if (sign != '<' && sign != '=' && sign != '>') {
                throw new Fault(at, 0);
            }
            if (++values > 60) {
                throw new Fault(at, 3);
            }
            at++;
            boolean alike = sign != '=' && at < s.length() && s.charAt(at) == '=';
            if (alike) {
                at++;
            }
            ToLongFunction<Map<String, Long>> right = sum();
            return w -> {
                int order = Long.compare(left.applyAsLong(w), right.applyAsLong(w));
                boolean so = order == 0 ? sign == '=' || alike : order < 0 == (sign == '<') && sign != '=';
                return so ? 1 : 0;
            };
        }

        private ToLongFunction<Map<String, Long>> sum() {
            ToLongFunction<Map<String, Long>> all = term();
            while (peek() == '+' || peek() == '-') {
                char sign = peek();
                at++;
                ToLongFunction<Map<String, Long>> left = all;
                ToLongFunction<Map<String, Long>> right = term();
                all = sign == '+' ? w -> left.applyAsLong(w) + right.applyAsLong(w)
                        : w -> left.applyAsLong(w) - right.applyAsLong(w);
            }
            return all;
        }

        private ToLongFunction<Map<String, Long>> term() {
            ToLongFunction<Map<String, Long>> all = value();
            while (peek() == '*' || peek() == '/' || peek() == '%') {
                char sign = peek();
                at++;
                ToLongFunction<Map<String, Long>> left = all;
                ToLongFunction<Map<String, Long>> right = value();
                all = w -> {
                    long a = left.applyAsLong(w);
                    long b = right.applyAsLong(w);
                    return sign == '*' ? a * b : b == 0 ? 0 : sign == '/' ? a / b : a % b;
                };
            }
            return all;
        }

        private ToLongFunction<Map<String, Long>> value() {
            String word = peekWord();
            int place = at;
            ToLongFunction<Map<String, Long>> found;
            if (WORDS.contains(word)) {
                at += word.length();
                found = w -> w.get(word);
            } else {
                int v = number(0, 99999, -1);
                found = w -> v;
            }
            if (++values > 60) {
                throw new Fault(place, 3);
            }
            return found;
        }
    }

    // ---- years

    private static Now begin(Told t) {
        Now n = new Now();
        n.depth = t.depth.clone();
        n.taste = t.taste.clone();
        n.water = t.depth.clone();
        n.heirs = t.heirs.clone();
        n.has = new int[t.farms];
        for (int i = 0; i < t.farms; i++) {
            n.has[i] = i;
        }
        return n;
    }

    private boolean can(Now n, int a, int b) {
        return told.kin[a][b] && n.heirs[a] > 0 && n.heirs[b] > 0;
    }

    private static int homes(Now n) {
        int many = 0;
        for (int i = 0; i < n.has.length; i++) {
            many += n.has[i] == i ? 1 : 0;
        }
        return many;
    }

    private static void marry(Now n, int a, int b) {
        int wa = n.has[a];
        int wb = n.has[b];
        int ta = n.taste[wa];
        int tb = n.taste[wb];
        n.taste[wa] += (tb - ta) / 3;
        n.taste[wb] += (ta - tb) / 3;
        n.has[a] = wb;
        n.has[b] = wa;
        n.heirs[a]--;
        n.heirs[b]--;
    }

    private int pass(Now n, int[] draws, int rule) {
        int farms = told.farms;
        int who = -2;
        long best = 0;
        for (int a = 0; a < farms; a++) {
            for (int b = a + 1; b < farms; b++) {
                if (can(n, a, b)) {
                    long worth = rule < 0 ? 1 : worth(n, a, b, rules.get(rule));
                    if (worth > best) {
                        best = worth;
                        who = 8 * a + b;
                    }
                }
            }
        }
        if (who != -2) {
            marry(n, who / 8, who % 8);
        }
        n.drawn = new int[farms];
        n.dug = new boolean[farms];
        for (int f = 0; f < farms; f++) {
            for (int i = 0; i < draws[f]; i++) {
                if (n.water[n.has[f]] > 0) {
                    n.water[n.has[f]]--;
                    n.drawn[f]++;
                }
            }
        }
        for (int w = 0; w < farms; w++) {
            n.water[w] += told.rain;
            if (n.water[w] > n.depth[w]) {
                n.water[w] = n.depth[w];
            }
            if (n.water[w] == 0) {
                n.dug[w] = true;
                if (n.depth[w] < 40) {
                    n.depth[w]++;
                }
            }
        }
        if (n.year % 5 == 4) {
            for (int f = 0; f < farms; f++) {
                if (n.heirs[f] < 9) {
                    n.heirs[f]++;
                }
            }
        }
        n.year++;
        return who;
    }

    private static long worth(Now n, int a, int b, List<Clause> rule) {
        Map<String, Long> w = new HashMap<>();
        int dry = 0;
        for (int v : n.water) {
            dry += v == 0 ? 1 : 0;
        }
        long[] values = {a, b, n.has[a], n.has[b], n.taste[n.has[a]], n.taste[n.has[b]], n.water[n.has[a]],
            n.water[n.has[b]], n.heirs[a] + n.heirs[b], homes(n), dry, n.year};
        for (int i = 0; i < values.length; i++) {
            w.put(WORDS.get(i), values[i]);
        }
        for (Clause c : rule) {
            if (c.test.applyAsLong(w) != 0) {
                return c.sum.applyAsLong(w);
            }
        }
        return 0;
    }

    // ---- state and acts

    private boolean is(int farm) {
        return told != null && farm >= 0 && farm < told.farms;
    }

    private static int holder(Now n, int well) {
        for (int f = 0; f < n.has.length; f++) {
            if (n.has[f] == well) {
                return f;
            }
        }
        throw new IllegalStateException();
    }

    private int well(int w, int what) {
        if (!is(w) || what < 0 || what > 3) {
            return -1;
        }
        return new int[] {now.depth[w], now.taste[w], now.water[w], holder(now, w)}[what];
    }

    private int farm(int f, int what) {
        if (!is(f) || what < 0 || what > 3) {
            return -1;
        }
        int kin = 0;
        for (int i = 0; i < told.farms; i++) {
            kin += told.kin[f][i] ? 1 << i : 0;
        }
        return new int[] {told.draws[f], now.heirs[f], now.has[f], kin}[what];
    }

    private static int lieOf(int[] has) {
        StringBuilder s = new StringBuilder();
        for (int h : has) {
            s.append(h + 1);
        }
        return Integer.parseInt(s.toString());
    }

    private void act() {
        undos.addLast(now.copy());
        if (undos.size() > 20) {
            undos.removeFirst();
        }
    }

    private int year() {
        if (told == null || now.year == 999) {
            return -1;
        }
        act();
        return pass(now, told.draws, force);
    }

    private int wed(int a, int b) {
        if (!is(a) || !is(b) || !can(now, a, b)) {
            return -1;
        }
        act();
        marry(now, Math.min(a, b), Math.max(a, b));
        return homes(now);
    }

    private int pour(int w, int much) {
        if (!is(w) || much < 1 || much > 30) {
            return -1;
        }
        act();
        return now.water[w] = Math.min(now.depth[w], now.water[w] + much);
    }

    private int dig(int w, int much) {
        if (!is(w) || much < 1 || much > 9) {
            return -1;
        }
        act();
        return now.depth[w] = Math.min(40, now.depth[w] + much);
    }

    private int birth(int f) {
        if (!is(f) || now.heirs[f] == 9) {
            return -1;
        }
        act();
        return ++now.heirs[f];
    }

    private int undo() {
        if (undos.isEmpty()) {
            return -1;
        }
        now = undos.removeLast();
        return undos.size();
    }

    // ---- by weddings alone

    private boolean isLie(int lie) {
        if (told == null) {
            return false;
        }
        char[] c = String.valueOf(lie).toCharArray();
        Arrays.sort(c);
        return new String(c).equals("1234567".substring(0, told.farms));
    }

    private TreeMap<Integer, Integer> distances(int from) {
        TreeMap<Integer, Integer> far = new TreeMap<>();
        Deque<Integer> next = new ArrayDeque<>();
        far.put(from, 0);
        next.add(from);
        while (!next.isEmpty()) {
            int lie = next.remove();
            for (int a = 0; a < told.farms; a++) {
                for (int b = a + 1; b < told.farms; b++) {
                    if (told.kin[a][b]) {
                        int to = swapped(lie, a, b);
                        if (!far.containsKey(to)) {
                            far.put(to, far.get(lie) + 1);
                            next.add(to);
                        }
                    }
                }
            }
        }
        return far;
    }

    private static int swapped(int lie, int a, int b) {
        char[] c = String.valueOf(lie).toCharArray();
        char kept = c[a];
        c[a] = c[b];
        c[b] = kept;
        return Integer.parseInt(new String(c));
    }

    private int fewest(int lie) {
        if (!isLie(lie)) {
            return -1;
        }
        return distances(lieOf(now.has)).getOrDefault(lie, -2);
    }

    private int step(int lie, int i, int what) {
        if (!isLie(lie) || i < 0 || what < 0 || what > 1) {
            return -1;
        }
        Map<Integer, Integer> toAim = distances(lie);
        int at = lieOf(now.has);
        if (toAim.getOrDefault(at, 0) <= i) {
            return -2;
        }
        for (int k = 0;; k++) {
            int left = toAim.get(at);
            int[] two = null;
            for (int a = 0; a < told.farms && two == null; a++) {
                for (int b = a + 1; b < told.farms && two == null; b++) {
                    if (told.kin[a][b] && toAim.get(swapped(at, a, b)) < left) {
                        two = new int[] {a, b};
                    }
                }
            }
            if (k == i) {
                return two[what];
            }
            at = swapped(at, two[0], two[1]);
        }
    }

    private int lies(int n) {
        if (told == null || n < 0 || n > 30) {
            return -1;
        }
        return (int) distances(lieOf(now.has)).values().stream().filter(d -> d <= n).count();
    }

    private int farthest(int what) {
        if (told == null || what < 0 || what > 1) {
            return -1;
        }
        int most = -1;
        int lie = 0;
        for (Map.Entry<Integer, Integer> e : distances(lieOf(now.has)).entrySet()) {
            if (e.getValue() > most) {
                most = e.getValue();
                lie = e.getKey();
            }
        }
        return what == 0 ? most : lie;
    }

    private int comes(int w, int f) {
        if (!is(w) || !is(f)) {
            return -1;
        }
        int best = -2;
        for (Map.Entry<Integer, Integer> e : distances(lieOf(now.has)).entrySet()) {
            boolean there = String.valueOf(e.getKey()).charAt(f) - '1' == w;
            if (there && (best < 0 || e.getValue() < best)) {
                best = e.getValue();
            }
        }
        return best;
    }

    private int rings(int what) {
        if (told == null || what < 0 || what > 1) {
            return -1;
        }
        int[] has = now.has.clone();
        int rings = 0;
        int weddings = 0;
        for (int f = 0; f < has.length; f++) {
            boolean ring = false;
            while (has[f] != f) {
                int other = has[f];
                has[f] = has[other];
                has[other] = other;
                weddings++;
                ring = true;
            }
            rings += ring ? 1 : 0;
        }
        return what == 0 ? rings : weddings;
    }

    // ---- how it goes on

    private int ahead(int w, int n, int what) {
        if (told == null || n < 0 || n > 100 || what < 0 || what > 3 || (what == 1 || what == 2) && !is(w)) {
            return -1;
        }
        Now t = now.copy();
        for (int i = 0; i < n; i++) {
            pass(t, told.draws, force);
        }
        switch (what) {
            case 0: return lieOf(t.has);
            case 1: return t.water[w];
            case 2: return t.taste[w];
            default: return Arrays.stream(t.heirs).sum();
        }
    }

    private int dry(int w) {
        if (!is(w)) {
            return -1;
        }
        Now t = now.copy();
        for (int i = 0; i < 200; i++) {
            int year = t.year;
            pass(t, told.draws, force);
            if (t.dug[w]) {
                return year;
            }
        }
        return -2;
    }

    private int home() {
        if (told == null) {
            return -1;
        }
        Now t = now.copy();
        for (int i = 0; i < 200; i++) {
            int year = t.year;
            pass(t, told.draws, force);
            if (homes(t) == told.farms) {
                return year;
            }
        }
        return -2;
    }

    private int heir(int n, int what) {
        if (told == null || n < 1 || n > 40 || what < 0 || what > 1) {
            return -2;
        }
        int which = -1;
        int most = -1;
        for (int f = -1; f < told.farms; f++) {
            Now t = now.copy();
            if (f >= 0) {
                t.heirs[f] = Math.min(9, t.heirs[f] + 1);
            }
            for (int i = 0; i < n; i++) {
                pass(t, told.draws, force);
            }
            if (homes(t) > most) {
                most = homes(t);
                which = f;
            }
        }
        return what == 0 ? which : most;
    }

    /** How it is behind the n-th YEAR of all, the first of which is YEAR 0, by a RULE. */
    Now behind(int rule, int n) {
        Now t = begin(told);
        while (t.year <= n) {
            pass(t, told.draws, rule);
        }
        return t;
    }

    private boolean allSo(Now start, int rule) {
        Now[] behind = new Now[61];
        for (int n = 0; n <= 60; n++) {
            pass(start, told.draws, rule);
            behind[n] = start.copy();
        }
        for (Note note : notes) {
            Now t = behind[note.n];
            if (t.taste[t.has[note.farm]] != note.taste) {
                return false;
            }
        }
        return true;
    }

    private int fitting(int w, int what, boolean depth) {
        if (!is(w) || what < 0 || what > 1) {
            return -1;
        }
        int many = 0;
        int least = -2;
        for (int v = depth ? 1 : 0; v <= (depth ? 30 : 60); v++) {
            Now t = begin(told);
            if (depth) {
                t.depth[w] = v;
                t.water[w] = v;
            } else {
                t.taste[w] = v;
            }
            if (allSo(t, force)) {
                many++;
                least = least == -2 ? v : least;
            }
        }
        return what == 0 ? many : least;
    }

    private int rests(int one, int other, int n, int what) {
        if (!is(one) || !is(other) || one == other || n < 1 || n > 20 || what < 0 || what > 2) {
            return -1;
        }
        int[][][] gain = new int[6][6][2];
        for (int a = 0; a < 6; a++) {
            for (int b = 0; b < 6; b++) {
                int[] draws = told.draws.clone();
                draws[one] = a;
                draws[other] = b;
                Now t = now.copy();
                for (int i = 0; i < n; i++) {
                    pass(t, draws, force);
                    gain[a][b][0] += t.drawn[one] - (t.water[t.has[one]] == 0 ? 3 : 0);
                    gain[a][b][1] += t.drawn[other] - (t.water[t.has[other]] == 0 ? 3 : 0);
                }
            }
        }
        List<int[]> rests = new ArrayList<>();
        for (int a = 0; a < 6; a++) {
            for (int b = 0; b < 6; b++) {
                boolean rest = true;
                for (int c = 0; c < 6; c++) {
                    rest &= gain[c][b][0] <= gain[a][b][0] && gain[a][c][1] <= gain[a][b][1];
                }
                if (rest) {
                    rests.add(new int[] {a, b});
                }
            }
        }
        return what == 0 ? rests.size() : rests.isEmpty() ? -2 : rests.get(0)[what - 1];
    }

    private int pence(int much, int farm) {
        if (!is(farm) || much < 0 || much > 9999) {
            return -1;
        }
        int all = Arrays.stream(now.water).sum();
        if (all == 0) {
            return 0;
        }
        int[] part = new int[told.farms];
        List<Integer> order = new ArrayList<>();
        int left = much;
        for (int f = 0; f < told.farms; f++) {
            part[f] = much * now.water[now.has[f]] / all;
            left -= part[f];
            order.add(f);
        }
        order.sort((a, b) -> Integer.compare(much * now.water[now.has[b]] % all, much * now.water[now.has[a]] % all));
        for (int i = 0; i < left; i++) {
            part[order.get(i)]++;
        }
        return part[farm];
    }

    private int note(int n, int farm, int taste) {
        if (n == -1) {
            notes = new ArrayList<>();
            return 0;
        }
        if (n < 0 || n > 60 || !is(farm) || taste < 0 || taste > 60 || notes.size() == 10) {
            return -2;
        }
        notes.add(new Note(n, farm, taste));
        return notes.size();
    }

    private List<Integer> ruledOnes() {
        List<Integer> so = new ArrayList<>();
        for (int r = -1; r < rules.size(); r++) {
            if (allSo(begin(told), r)) {
                so.add(r);
            }
        }
        return so;
    }

    private int ruled(int what) {
        if (told == null || what < 0 || what > 1) {
            return -3;
        }
        List<Integer> so = ruledOnes();
        return what == 0 ? so.size() : so.isEmpty() ? -2 : so.get(0);
    }

    private int look(int n, int what) {
        if (told == null || n < 0 || n > 60 || what < 0 || what > 1) {
            return -1;
        }
        List<Integer> so = ruledOnes();
        if (so.isEmpty()) {
            return -2;
        }
        List<Now> ends = new ArrayList<>();
        for (int r : so) {
            ends.add(behind(r, n));
        }
        int best = -1;
        int fewest = 99;
        for (int f = 0; f < told.farms; f++) {
            Map<Integer, Integer> groups = new HashMap<>();
            int most = 0;
            for (Now t : ends) {
                most = Math.max(most, groups.merge(t.taste[t.has[f]], 1, Integer::sum));
            }
            if (most < fewest) {
                fewest = most;
                best = f;
            }
        }
        return what == 0 ? best : fewest;
    }

    private int seed(int v) {
        if (v < 0) {
            return -1;
        }
        int was = x;
        x = v;
        return was;
    }

    private int droughts(int m, int n, int p, int what) {
        if (told == null || m < 1 || m > 10 || n < 1 || n > 60 || p < 0 || p > 100 || what < 0 || what > 1) {
            return -1;
        }
        long y = x;
        int homes = 0;
        int water = 0;
        for (int k = 0; k < m; k++) {
            Now t = now.copy();
            for (int i = 0; i < n; i++) {
                y = (y * 1103515245 + 12345) % 2147483648L;
                if (y / 65536 % 100 < p) {
                    y = (y * 1103515245 + 12345) % 2147483648L;
                    t.water[t.has[(int) (y / 65536 % told.farms)]] = 0;
                }
                pass(t, told.draws, force);
            }
            homes += homes(t);
            water += Arrays.stream(t.water).sum();
        }
        return what == 0 ? homes : water;
    }

    private int count(int what) {
        boolean is = told != null;
        int bits = 0;
        int twos = 0;
        for (int a = 0; is && a < told.farms; a++) {
            bits += now.has[a] == a ? 1 << a : 0;
            for (int b = a + 1; b < told.farms; b++) {
                twos += can(now, a, b) ? 1 : 0;
            }
        }
        int[] all = {is ? told.farms : 0, is ? told.rain : 0, rules.size(), force, is ? now.year : 0, bits,
            is ? Arrays.stream(now.water).sum() : 0, is ? Arrays.stream(now.heirs).sum() : 0, twos, notes.size(),
            undos.size(), x, tape.size()};
        return what >= 0 && what < all.length ? all[what] : -1;
    }

    private int image(int k) {
        if (k < 0 || k > 3) {
            return -1;
        }
        images[k] = new Image(told, told == null ? null : now.copy(), new ArrayList<>(notes), force, x);
        return told == null ? 0 : now.year;
    }

    private int back(int k) {
        if (k < 0 || k > 3 || images[k] == null) {
            return -1;
        }
        told = images[k].told;
        now = told == null ? null : images[k].now.copy();
        notes = new ArrayList<>(images[k].notes);
        force = images[k].force;
        x = images[k].x;
        undos.clear();
        return told == null ? 0 : now.year;
    }
}

/**
 * Wells that are swapped at weddings. The words in capitals are those of the document; every answer and
 * every change of state is told there, promise by promise. No call throws, and no call makes an object:
 * all rows are made with the object and used again.
 */
public final class WellSwap {
    public static final int NONE = -1;

    /** What many calls answer where there is no such thing, while NONE tells that the call itself was wrong. */
    private static final int NOTHING = -2;
    private static final int NO_RULED = -3;

    private static final int MOST_FARMS = 7;
    private static final int MOST_BYTES = 400;
    private static final int BYTES_FED = 20;
    private static final int MOST_PARISH_CLAUSES = 40;
    private static final int MOST_RULE_CLAUSES = 12;
    private static final int MOST_RULES = 6;
    private static final int MOST_IMAGES = 4;
    private static final int MOST_ACTS = 20;
    private static final int MOST_NOTES = 10;
    private static final int MOST_HEIRS = 9;
    private static final int MOST_DEPTH = 40;
    private static final int MOST_DEPTH_TOLD = 30;
    private static final int MOST_TASTE = 60;
    private static final int MOST_DRAWS = 5;
    private static final int LAST_YEAR_BY_HAND = 999;
    private static final int LAST_YEAR_NOTED = 60;
    private static final int YEARS_SEARCHED = 200;
    /** Above every LIE. */
    private static final int NO_LIE = 10000000;

    // What a text is cut into; those from PARISH on are WORDS, in the order of NAMES.
    private static final int END = 0;
    private static final int NUMBER = 1;
    private static final int LONG_NUMBER = 2;
    private static final int STRANGE = 3;
    private static final int SEMICOLON = 4;
    private static final int OPEN = 5;
    private static final int CLOSE = 6;
    private static final int PLUS = 7;
    private static final int MINUS = 8;
    private static final int TIMES = 9;
    private static final int OVER = 10;
    private static final int REST = 11;
    private static final int LESS = 12;
    private static final int EQUAL = 13;
    private static final int MORE = 14;
    private static final int AT_MOST = 15;
    private static final int AT_LEAST = 16;
    private static final int PARISH = 17;
    private static final int WELL = 18;
    private static final int FARM = 19;
    private static final int KIN = 20;
    private static final int WED = 21;
    private static final int IF = 22;
    private static final int OR = 23;
    private static final int AND = 24;
    private static final int NOT = 25;
    private static final int BRIDE = 26;
    private static final int GROOM = 27;
    private static final int HERS = 28;
    private static final int HIS = 29;
    private static final int SWEET = 30;
    private static final int SOUR = 31;
    private static final int FULL = 32;
    private static final int LOW = 33;
    private static final int HEIRS = 34;
    private static final int HOME = 35;
    private static final int DRY = 36;
    private static final int YEAR = 37;
    /** In the order of the kinds from SEMICOLON to MORE. */
    private static final String SIGNS = ";[]+-*/%<=>";
    /** In the order of the kinds from PARISH to YEAR, a blank behind each. */
    private static final String NAMES =
            "parish well farm kin wed if or and not bride groom hers his sweet sour full low heirs home dry year ";

    private static final int FAULT_STRANGE = 0;
    private static final int FAULT_NUMBER = 1;
    private static final int FAULT_DEEP = 2;
    private static final int FAULT_VALUES = 3;
    private static final int FAULT_CLAUSE = 4;

    private final byte[] tape = new byte[MOST_BYTES];
    private int tapeSize;
    private final Tokens tokens = new Tokens();
    private final Parish draft = new Parish();
    private final RuleReader ruleReader = new RuleReader();
    private final Rule[] rules = new Rule[MOST_RULES];
    private int ruleCount;
    private final World world = new World();
    private final Acts acts = new Acts();
    private final World[] images = new World[MOST_IMAGES];
    private final Years years = new Years();
    private final Foresight foresight = new Foresight();
    private final LieTable lieTable = new LieTable();

    public WellSwap() {
        for (int i = 0; i < MOST_RULES; i++) {
            rules[i] = new Rule();
        }
        for (int i = 0; i < MOST_IMAGES; i++) {
            images[i] = new World();
        }
    }

    // ---- texts

    public int feed(int a, int b, int c, int d, int e) {
        if (tapeSize + BYTES_FED > MOST_BYTES) {
            return NONE;
        }
        putFour(a);
        putFour(b);
        putFour(c);
        putFour(d);
        putFour(e);
        return tapeSize;
    }

    private void putFour(int four) {
        for (int shift = 24; shift >= 0; shift -= 8) {
            tape[tapeSize] = (byte) (four >> shift);
            tapeSize++;
        }
    }

    public int end(int n) {
        if (n < 0 || n > tapeSize) {
            return NONE;
        }
        tapeSize = n;
        return n;
    }

    public int parish() {
        cutTape();
        int fault = draft.readFrom(tokens);
        if (fault != 0) {
            return -2 - fault;
        }
        world.parish.copyFrom(draft);
        world.state.begin(draft);
        world.notes.clear();
        acts.forget();
        return draft.farms;
    }

    public int rule() {
        if (ruleCount >= MOST_RULES) {
            return NONE;
        }
        cutTape();
        // The rule behind the last one is nobody's yet, so a faulty text may spoil it.
        int fault = ruleReader.read(tokens, rules[ruleCount]);
        if (fault != 0) {
            return -2 - fault;
        }
        ruleCount++;
        return ruleCount - 1;
    }

    private void cutTape() {
        tokens.cut(tape, tapeSize);
        tapeSize = 0;
    }

    public int force(int rule) {
        if (!isWithin(rule, NONE, ruleCount - 1)) {
            return NOTHING;
        }
        int before = world.force;
        world.force = rule;
        return before;
    }

    // ---- what is

    public int well(int well, int what) {
        if (!isWell(well)) {
            return NONE;
        }
        switch (what) {
            case 0:
                return world.state.depth[well];
            case 1:
                return world.state.taste[well];
            case 2:
                return world.state.water[well];
            case 3:
                return world.state.farmThatHas(well);
            default:
                return NONE;
        }
    }

    public int farm(int farm, int what) {
        if (!isFarm(farm)) {
            return NONE;
        }
        switch (what) {
            case 0:
                return world.parish.draws[farm];
            case 1:
                return world.state.heirs[farm];
            case 2:
                return world.state.has[farm];
            case 3:
                return world.parish.kin[farm];
            default:
                return NONE;
        }
    }

    public int lie() {
        return hasParish() ? world.state.lieNumber() : NONE;
    }

    public int count(int what) {
        switch (what) {
            case 0:
                return world.parish.farms;
            case 1:
                return world.parish.rain;
            case 2:
                return ruleCount;
            case 3:
                return world.force;
            case 4:
                return world.state.year;
            case 5:
                return world.state.homeBits();
            case 6:
                return world.state.waterOfAll();
            case 7:
                return world.state.heirsOfAll();
            case 8:
                return world.state.twosThatCanWed(world.parish);
            case 9:
                return world.notes.size;
            case 10:
                return acts.size;
            case 11:
                return world.x;
            case 12:
                return tapeSize;
            default:
                return NONE;
        }
    }

    // ---- acts

    public int year() {
        if (!hasParish() || world.state.year >= LAST_YEAR_BY_HAND) {
            return NONE;
        }
        acts.keep(world.state);
        return years.pass(world.parish, world.state, world.parish.draws, ruleInForce());
    }

    public int wed(int one, int other) {
        if (!isFarm(one) || !isFarm(other) || !world.state.canWed(world.parish, one, other)) {
            return NONE;
        }
        acts.keep(world.state);
        world.state.marry(one, other);
        return world.state.homes();
    }

    public int pour(int well, int much) {
        if (!isWell(well) || !isWithin(much, 1, 30)) {
            return NONE;
        }
        acts.keep(world.state);
        world.state.addWater(well, much);
        return world.state.water[well];
    }

    public int dig(int well, int much) {
        if (!isWell(well) || !isWithin(much, 1, 9)) {
            return NONE;
        }
        acts.keep(world.state);
        world.state.addDepth(well, much);
        return world.state.depth[well];
    }

    public int birth(int farm) {
        if (!isFarm(farm) || world.state.heirs[farm] >= MOST_HEIRS) {
            return NONE;
        }
        acts.keep(world.state);
        world.state.addHeir(farm);
        return world.state.heirs[farm];
    }

    public int undo() {
        if (acts.size == 0) {
            return NONE;
        }
        acts.takeBack(world.state);
        return acts.size;
    }

    // ---- by weddings alone

    public int fewest(int lie) {
        if (!hasParish() || !lieTable.aimAt(world, lie)) {
            return NONE;
        }
        return lieTable.fewestLeft();
    }

    public int step(int lie, int i, int what) {
        if (i < 0 || !isWithin(what, 0, 1) || !hasParish() || !lieTable.aimAt(world, lie)) {
            return NONE;
        }
        int two = lieTable.wedding(world.parish, i);
        if (two < 0) {
            return NOTHING;
        }
        return what == 0 ? two / 8 : two % 8;
    }

    public int lies(int n) {
        if (!isWithin(n, 0, 30) || !hasParish()) {
            return NONE;
        }
        return lieTable.reachedWithin(world.parish, n);
    }

    public int farthest(int what) {
        if (!isWithin(what, 0, 1) || !hasParish()) {
            return NONE;
        }
        return what == 0 ? lieTable.most(world.parish) : lieTable.leastOfFarthest(world);
    }

    public int comes(int well, int farm) {
        if (!isWell(well) || !isFarm(farm)) {
            return NONE;
        }
        return world.parish.weddingsBetween(world.state.farmThatHas(well), farm);
    }

    public int rings(int what) {
        if (!isWithin(what, 0, 1) || !hasParish()) {
            return NONE;
        }
        int rings = world.state.ringsOfWells();
        if (what == 0) {
            return rings;
        }
        return world.parish.farms - world.state.homes() - rings;
    }

    // ---- how it goes on

    public int ahead(int well, int n, int what) {
        if (!isWithin(n, 0, 100) || !isWithin(what, 0, 3) || !hasParish()) {
            return NONE;
        }
        boolean asksWell = what == 1 || what == 2;
        if (asksWell && !isWell(well)) {
            return NONE;
        }
        State then = foresight.after(world, ruleInForce(), n);
        switch (what) {
            case 0:
                return then.lieNumber();
            case 1:
                return then.water[well];
            case 2:
                return then.taste[well];
            default:
                return then.heirsOfAll();
        }
    }

    public int dry(int well) {
        return isWell(well) ? foresight.yearDug(world, ruleInForce(), well) : NONE;
    }

    public int home() {
        return hasParish() ? foresight.yearAllAreHome(world, ruleInForce()) : NONE;
    }

    public int heir(int n, int what) {
        if (!isWithin(n, 1, 40) || !isWithin(what, 0, 1) || !hasParish()) {
            return NOTHING;
        }
        int best = foresight.bestHeir(world, ruleInForce(), n);
        return what == 0 ? best : foresight.most;
    }

    public int rests(int one, int other, int n, int what) {
        if (!isFarm(one) || !isFarm(other) || one == other) {
            return NONE;
        }
        if (!isWithin(n, 1, 20) || !isWithin(what, 0, 2)) {
            return NONE;
        }
        foresight.play(world, ruleInForce(), one, other, n);
        int first = foresight.findRests();
        if (what == 0) {
            return foresight.most;
        }
        if (first < 0) {
            return NOTHING;
        }
        return what == 1 ? first / (MOST_DRAWS + 1) : first % (MOST_DRAWS + 1);
    }

    public int pence(int much, int farm) {
        if (!isWithin(much, 0, 9999) || !isFarm(farm)) {
            return NONE;
        }
        return world.state.penceOf(much, farm);
    }

    // ---- what was noted

    public int note(int n, int farm, int taste) {
        if (n == NONE) {
            world.notes.clear();
            return 0;
        }
        if (!isWithin(n, 0, LAST_YEAR_NOTED) || !isFarm(farm) || !isWithin(taste, 0, MOST_TASTE)) {
            return NOTHING;
        }
        return world.notes.add(n, farm, taste) ? world.notes.size : NOTHING;
    }

    public int depths(int well, int what) {
        if (!isWell(well) || !isWithin(what, 0, 1)) {
            return NONE;
        }
        int least = foresight.leastDepth(world, ruleInForce(), well);
        return what == 0 ? foresight.most : least;
    }

    public int tastes(int well, int what) {
        if (!isWell(well) || !isWithin(what, 0, 1)) {
            return NONE;
        }
        int least = foresight.leastTaste(world, ruleInForce(), well);
        return what == 0 ? foresight.most : least;
    }

    public int ruled(int what) {
        if (!isWithin(what, 0, 1) || !hasParish()) {
            return NO_RULED;
        }
        int bits = foresight.ruledBits(world, rules, ruleCount);
        if (what == 0) {
            return Integer.bitCount(bits);
        }
        return foresight.firstRuled(bits);
    }

    public int look(int n, int what) {
        if (!isWithin(n, 0, LAST_YEAR_NOTED) || !isWithin(what, 0, 1) || !hasParish()) {
            return NONE;
        }
        int bits = foresight.ruledBits(world, rules, ruleCount);
        if (bits == 0) {
            return NOTHING;
        }
        foresight.tasteAll(world, rules, bits, n);
        int best = foresight.farmThatParts(world.parish.farms, bits);
        return what == 0 ? best : foresight.most;
    }

    // ---- draws

    public int seed(int x) {
        if (x < 0) {
            return NONE;
        }
        int before = world.x;
        world.x = x;
        return before;
    }

    public int droughts(int m, int n, int p, int what) {
        if (!isWithin(m, 1, 10) || !isWithin(n, 1, 60) || !isWithin(p, 0, 100)) {
            return NONE;
        }
        if (!isWithin(what, 0, 1) || !hasParish()) {
            return NONE;
        }
        int homes = 0;
        int water = 0;
        foresight.x = world.x;
        for (int i = 0; i < m; i++) {
            State then = foresight.afterDroughts(world, ruleInForce(), n, p);
            homes += then.homes();
            water += then.waterOfAll();
        }
        return what == 0 ? homes : water;
    }

    // ---- images

    public int image(int k) {
        if (!isWithin(k, 0, MOST_IMAGES - 1)) {
            return NONE;
        }
        images[k].copyFrom(world);
        images[k].made = true;
        return world.state.year;
    }

    public int back(int k) {
        if (!isWithin(k, 0, MOST_IMAGES - 1) || !images[k].made) {
            return NONE;
        }
        world.copyFrom(images[k]);
        acts.forget();
        return world.state.year;
    }

    private boolean hasParish() {
        return world.parish.farms > 0;
    }

    private boolean isFarm(int farm) {
        return farm >= 0 && farm < world.parish.farms;
    }

    /** There are as many WELLS as FARMS, with the same numbers. */
    private boolean isWell(int well) {
        return isFarm(well);
    }

    private static boolean isWithin(int number, int least, int most) {
        return number >= least && number <= most;
    }

    /** Null without one. */
    private Rule ruleInForce() {
        return isWithin(world.force, 0, ruleCount - 1) ? rules[world.force] : null;
    }

    /** A text cut into numbers, words and signs, of which one is looked at; and its first FAULT. */
    private static final class Tokens {
        final int[] kind = new int[MOST_BYTES + 1];
        final int[] place = new int[MOST_BYTES + 1];
        /** Of a NUMBER alone. */
        final int[] value = new int[MOST_BYTES + 1];
        int next;
        int fault;

        void cut(byte[] text, int size) {
            int many = 0;
            int behind = 0;
            for (int at = 0; at < size && many < MOST_BYTES; at++) {
                int sign = text[at] & 255;
                if (at < behind || sign == ' ') {
                    continue;
                }
                place[many] = at;
                if (isDigit(sign)) {
                    behind = cutNumber(text, size, many);
                } else if (isSmallLetter(sign)) {
                    behind = cutWord(text, size, many);
                } else {
                    behind = cutSign(text, size, many);
                }
                many++;
            }
            place[many] = size;
            kind[many] = END;
            next = 0;
            fault = 0;
        }

        /** The place behind it, as the other two tell. */
        private int cutNumber(byte[] text, int size, int token) {
            int at = place[token];
            int number = 0;
            int digits = 0;
            while (at < size && isDigit(text[at] & 255)) {
                digits++;
                if (digits <= 5) {
                    number = number * 10 + (text[at] & 255) - '0';
                }
                at++;
            }
            kind[token] = digits <= 5 ? NUMBER : LONG_NUMBER;
            value[token] = number;
            return at;
        }

        private int cutWord(byte[] text, int size, int token) {
            int from = place[token];
            int at = from;
            while (at < size && isSmallLetter(text[at] & 255)) {
                at++;
            }
            kind[token] = kindOfWord(text, from, at);
            return at;
        }

        private static int kindOfWord(byte[] text, int from, int to) {
            int found = PARISH;
            int start = 0;
            for (int i = 0; i < NAMES.length(); i++) {
                if (NAMES.charAt(i) == ' ') {
                    if (i - start == to - from && isSame(text, from, start, i - start)) {
                        return found;
                    }
                    found++;
                    start = i + 1;
                }
            }
            return STRANGE;
        }

        private static boolean isSame(byte[] text, int from, int start, int length) {
            for (int i = 0; i < length; i++) {
                if (text[from + i] != NAMES.charAt(start + i)) {
                    return false;
                }
            }
            return true;
        }

        private int cutSign(byte[] text, int size, int token) {
            int at = place[token];
            int found = SIGNS.indexOf((char) (text[at] & 255));
            kind[token] = found < 0 ? STRANGE : SEMICOLON + found;
            boolean before = at + 1 < size && text[at + 1] == '=';
            if (before && kind[token] == LESS) {
                kind[token] = AT_MOST;
                return at + 2;
            }
            if (before && kind[token] == MORE) {
                kind[token] = AT_LEAST;
                return at + 2;
            }
            return at + 1;
        }

        private static boolean isDigit(int sign) {
            return sign >= '0' && sign <= '9';
        }

        private static boolean isSmallLetter(int sign) {
            return sign >= 'a' && sign <= 'z';
        }

        /** Behind a FAULT nothing is looked at but the END, so that every reader comes to its end. */
        int looked() {
            return fault == 0 ? kind[next] : END;
        }

        void move() {
            if (kind[next] != END) {
                next++;
            }
        }

        boolean takes(int wanted) {
            boolean there = looked() == wanted;
            if (there) {
                move();
            }
            return there;
        }

        /** A NUMBER from least to most, and least in its place at a FAULT. */
        int takeNumber(int least, int most) {
            int found = looked();
            if (found != NUMBER && found != LONG_NUMBER) {
                fail(FAULT_STRANGE);
                return least;
            }
            int number = value[next];
            if (found == LONG_NUMBER || number < least || number > most) {
                fail(FAULT_NUMBER);
                return least;
            }
            move();
            return number;
        }

        void takeEnd() {
            if (looked() != END) {
                fail(FAULT_STRANGE);
            }
        }

        /** Texts are read along, so the FAULT that is found first is the first along the text. */
        void fail(int what) {
            if (fault == 0) {
                fault = 1 + 8 * place[next] + what;
            }
        }
    }

    /** What the text told. */
    private static final class Parish {
        /** 0: there is no PARISH. */
        int farms;
        int rain;
        final int[] depth = new int[MOST_FARMS];
        final int[] taste = new int[MOST_FARMS];
        final int[] draws = new int[MOST_FARMS];
        final int[] heirs = new int[MOST_FARMS];
        /** Of each FARM those that are KIN to it, as bits. */
        final int[] kin = new int[MOST_FARMS];

        void copyFrom(Parish other) {
            farms = other.farms;
            rain = other.rain;
            System.arraycopy(other.depth, 0, depth, 0, MOST_FARMS);
            System.arraycopy(other.taste, 0, taste, 0, MOST_FARMS);
            System.arraycopy(other.draws, 0, draws, 0, MOST_FARMS);
            System.arraycopy(other.heirs, 0, heirs, 0, MOST_FARMS);
            System.arraycopy(other.kin, 0, kin, 0, MOST_FARMS);
        }

        private void setUntold() {
            farms = 0;
            rain = 0;
            for (int i = 0; i < MOST_FARMS; i++) {
                depth[i] = 9;
                taste[i] = 0;
                draws[i] = 1;
                heirs[i] = 2;
                kin[i] = 0;
            }
        }

        /** The FAULT of the text; 0: it has none. */
        int readFrom(Tokens in) {
            setUntold();
            int clauses = 0;
            do {
                readClause(in, clauses);
                clauses++;
            } while (clauses <= MOST_PARISH_CLAUSES && in.takes(SEMICOLON));
            in.takeEnd();
            return in.fault;
        }

        private void readClause(Tokens in, int before) {
            int word = in.looked();
            if (word < PARISH || word > KIN) {
                in.fail(FAULT_STRANGE);
                return;
            }
            boolean first = before == 0;
            if (before >= MOST_PARISH_CLAUSES || first != (word == PARISH)) {
                in.fail(FAULT_CLAUSE);
                return;
            }
            in.move();
            if (word == PARISH) {
                farms = in.takeNumber(2, MOST_FARMS);
                rain = in.takeNumber(0, 9);
            } else if (word == WELL) {
                int well = in.takeNumber(0, farms - 1);
                depth[well] = in.takeNumber(1, MOST_DEPTH_TOLD);
                taste[well] = in.takeNumber(0, MOST_TASTE);
            } else if (word == FARM) {
                int farm = in.takeNumber(0, farms - 1);
                draws[farm] = in.takeNumber(0, MOST_DRAWS);
                heirs[farm] = in.takeNumber(0, MOST_HEIRS);
            } else {
                readKin(in);
            }
        }

        private void readKin(Tokens in) {
            int one = in.takeNumber(0, farms - 1);
            if (in.looked() == NUMBER && in.value[in.next] == one) {
                in.fail(FAULT_NUMBER);
            }
            int other = in.takeNumber(0, farms - 1);
            kin[one] |= 1 << other;
            kin[other] |= 1 << one;
        }

        boolean areKin(int one, int other) {
            return (kin[one] >> other & 1) != 0;
        }

        /** By how few WEDDINGS a WELL comes from one FARM to another one; NOTHING: by none. */
        int weddingsBetween(int from, int to) {
            int reached = 1 << from;
            for (int weddings = 0; weddings < farms; weddings++) {
                if ((reached >> to & 1) != 0) {
                    return weddings;
                }
                int further = reached;
                for (int farm = 0; farm < farms; farm++) {
                    if ((reached >> farm & 1) != 0) {
                        further |= kin[farm];
                    }
                }
                reached = further;
            }
            return NOTHING;
        }
    }

    /** How FARMS and WELLS are in a YEAR. */
    private static final class State {
        int farms;
        int year;
        final int[] depth = new int[MOST_FARMS];
        final int[] taste = new int[MOST_FARMS];
        final int[] water = new int[MOST_FARMS];
        /** Of each FARM the WELL it has. */
        final int[] has = new int[MOST_FARMS];
        final int[] heirs = new int[MOST_FARMS];

        void copyFrom(State other) {
            farms = other.farms;
            year = other.year;
            System.arraycopy(other.depth, 0, depth, 0, MOST_FARMS);
            System.arraycopy(other.taste, 0, taste, 0, MOST_FARMS);
            System.arraycopy(other.water, 0, water, 0, MOST_FARMS);
            System.arraycopy(other.has, 0, has, 0, MOST_FARMS);
            System.arraycopy(other.heirs, 0, heirs, 0, MOST_FARMS);
        }

        void begin(Parish told) {
            farms = told.farms;
            year = 0;
            for (int i = 0; i < MOST_FARMS; i++) {
                depth[i] = told.depth[i];
                taste[i] = told.taste[i];
                water[i] = told.depth[i];
                has[i] = i;
                heirs[i] = told.heirs[i];
            }
        }

        int farmThatHas(int well) {
            int found = 0;
            for (int farm = 0; farm < farms; farm++) {
                if (has[farm] == well) {
                    found = farm;
                }
            }
            return found;
        }

        int lieNumber() {
            int number = 0;
            for (int farm = 0; farm < farms; farm++) {
                number = number * 10 + has[farm] + 1;
            }
            return number;
        }

        int homeBits() {
            int bits = 0;
            for (int farm = 0; farm < farms; farm++) {
                if (has[farm] == farm) {
                    bits |= 1 << farm;
                }
            }
            return bits;
        }

        int homes() {
            return Integer.bitCount(homeBits());
        }

        int dries() {
            int many = 0;
            for (int well = 0; well < farms; well++) {
                if (water[well] == 0) {
                    many++;
                }
            }
            return many;
        }

        int waterOfAll() {
            int all = 0;
            for (int well = 0; well < farms; well++) {
                all += water[well];
            }
            return all;
        }

        int heirsOfAll() {
            int all = 0;
            for (int farm = 0; farm < farms; farm++) {
                all += heirs[farm];
            }
            return all;
        }

        boolean canWed(Parish parish, int one, int other) {
            return parish.areKin(one, other) && heirs[one] > 0 && heirs[other] > 0;
        }

        int twosThatCanWed(Parish parish) {
            int many = 0;
            for (int one = 0; one < farms; one++) {
                for (int other = one + 1; other < farms; other++) {
                    if (canWed(parish, one, other)) {
                        many++;
                    }
                }
            }
            return many;
        }

        void marry(int one, int other) {
            int hers = has[one];
            int his = has[other];
            int sweet = taste[hers];
            int sour = taste[his];
            taste[hers] = sweet + (sour - sweet) / 3;
            taste[his] = sour + (sweet - sour) / 3;
            has[one] = his;
            has[other] = hers;
            heirs[one]--;
            heirs[other]--;
        }

        void addWater(int well, int much) {
            water[well] = Math.min(water[well] + much, depth[well]);
        }

        void addDepth(int well, int much) {
            depth[well] = Math.min(depth[well] + much, MOST_DEPTH);
        }

        void addHeir(int farm) {
            heirs[farm] = Math.min(heirs[farm] + 1, MOST_HEIRS);
        }

        int ringsOfWells() {
            int rings = 0;
            int seen = homeBits();
            for (int farm = 0; farm < farms; farm++) {
                if ((seen >> farm & 1) != 0) {
                    continue;
                }
                rings++;
                int next = farm;
                for (int i = 0; i < farms; i++) {
                    seen |= 1 << next;
                    next = has[next];
                }
            }
            return rings;
        }

        int penceOf(int much, int farm) {
            int all = waterOfAll();
            if (all <= 0) {
                return 0;
            }
            int left = much;
            int ahead = 0;
            int lost = much * water[has[farm]] % all;
            for (int other = 0; other < farms; other++) {
                int due = much * water[has[other]];
                left -= due / all;
                if (due % all > lost || (due % all == lost && other < farm)) {
                    ahead++;
                }
            }
            int part = much * water[has[farm]] / all;
            return ahead < left ? part + 1 : part;
        }
    }

    /** What was told of the TASTE of WELLS. */
    private static final class Notes {
        int size;
        private final int[] year = new int[MOST_NOTES];
        private final int[] farm = new int[MOST_NOTES];
        private final int[] taste = new int[MOST_NOTES];

        void clear() {
            size = 0;
        }

        void copyFrom(Notes other) {
            size = other.size;
            System.arraycopy(other.year, 0, year, 0, MOST_NOTES);
            System.arraycopy(other.farm, 0, farm, 0, MOST_NOTES);
            System.arraycopy(other.taste, 0, taste, 0, MOST_NOTES);
        }

        boolean add(int whichYear, int whichFarm, int whichTaste) {
            if (size >= MOST_NOTES) {
                return false;
            }
            year[size] = whichYear;
            farm[size] = whichFarm;
            taste[size] = whichTaste;
            size++;
            return true;
        }

        /** NONE without NOTES. */
        int lastYear() {
            int last = NONE;
            for (int i = 0; i < size; i++) {
                last = Math.max(last, year[i]);
            }
            return last;
        }

        /** Are the NOTES of the n-th YEAR so, when it is as the State tells behind it? */
        boolean areSo(int n, State behind) {
            for (int i = 0; i < size; i++) {
                if (year[i] == n && behind.taste[behind.has[farm[i]]] != taste[i]) {
                    return false;
                }
            }
            return true;
        }
    }

    /** All that an IMAGE holds. */
    private static final class World {
        final Parish parish = new Parish();
        final State state = new State();
        final Notes notes = new Notes();
        int force = NONE;
        int x;
        /** Of an IMAGE alone. */
        boolean made;

        void copyFrom(World other) {
            parish.copyFrom(other.parish);
            state.copyFrom(other.state);
            notes.copyFrom(other.notes);
            force = other.force;
            x = other.x;
        }
    }

    /** How it was ahead of the last ACTS, in a ring of rows. */
    private static final class Acts {
        private final State[] rows = new State[MOST_ACTS];
        private int next;
        int size;

        Acts() {
            for (int i = 0; i < MOST_ACTS; i++) {
                rows[i] = new State();
            }
        }

        void forget() {
            size = 0;
        }

        void keep(State state) {
            rows[next].copyFrom(state);
            next = (next + 1) % MOST_ACTS;
            size = Math.min(size + 1, MOST_ACTS);
        }

        void takeBack(State state) {
            next = (next + MOST_ACTS - 1) % MOST_ACTS;
            state.copyFrom(rows[next]);
            size--;
        }
    }

    /** A RULE as code for a stack: a number that is pushed, or less than 0 the kind of a WORD or sign. */
    private static final class Rule {
        /** Each [ holds back at most one value for or and one for and, a FACT at most four more. */
        private static final int STACK = 40;
        private final int[] code = new int[MOST_BYTES];
        private int size;
        private final int[] sumFrom = new int[MOST_RULE_CLAUSES];
        private final int[] testFrom = new int[MOST_RULE_CLAUSES];
        private final int[] testTo = new int[MOST_RULE_CLAUSES];
        private int clauses;
        private final long[] stack = new long[STACK];

        void clear() {
            size = 0;
            clauses = 0;
        }

        void openClause() {
            if (clauses < MOST_RULE_CLAUSES) {
                sumFrom[clauses] = size;
            }
        }

        void openTest() {
            if (clauses < MOST_RULE_CLAUSES) {
                testFrom[clauses] = size;
            }
        }

        void closeClause() {
            if (clauses < MOST_RULE_CLAUSES) {
                testTo[clauses] = size;
                clauses++;
            }
        }

        void push(int number) {
            if (size < MOST_BYTES) {
                code[size] = number;
                size++;
            }
        }

        void apply(int kind) {
            push(-kind);
        }

        /** The SUM of the first CLAUSE without a TEST, or whose TEST holds; 0 without one. */
        long worth(long[] words) {
            for (int i = 0; i < clauses; i++) {
                boolean holds = testFrom[i] == testTo[i] || run(testFrom[i], testTo[i], words) != 0;
                if (holds) {
                    return run(sumFrom[i], testFrom[i], words);
                }
            }
            return 0;
        }

        private long run(int from, int to, long[] words) {
            int top = 0;
            for (int i = from; i < to; i++) {
                int kind = -code[i];
                if (kind > NOT || kind <= 0) {
                    if (top >= STACK) {
                        return 0;
                    }
                    stack[top] = kind <= 0 ? -kind : words[kind - BRIDE];
                    top++;
                } else if (kind == NOT) {
                    if (top < 1) {
                        return 0;
                    }
                    stack[top - 1] = stack[top - 1] == 0 ? 1 : 0;
                } else {
                    if (top < 2) {
                        return 0;
                    }
                    top--;
                    stack[top - 1] = combine(kind, stack[top - 1], stack[top]);
                }
            }
            return top == 1 ? stack[0] : 0;
        }

        private static long combine(int kind, long one, long other) {
            switch (kind) {
                case PLUS:
                    return one + other;
                case MINUS:
                    return one - other;
                case TIMES:
                    return one * other;
                case OVER:
                    return other == 0 ? 0 : one / other;
                case REST:
                    return other == 0 ? 0 : one % other;
                case LESS:
                    return one < other ? 1 : 0;
                case AT_MOST:
                    return one <= other ? 1 : 0;
                case EQUAL:
                    return one == other ? 1 : 0;
                case AT_LEAST:
                    return one >= other ? 1 : 0;
                case MORE:
                    return one > other ? 1 : 0;
                case AND:
                    return one & other;
                case OR:
                    return one | other;
                default:
                    return 0;
            }
        }
    }

    /** Reads the text of a RULE and writes its code. */
    private static final class RuleReader {
        private static final int MOST_DEEP = 10;
        private static final int MOST_VALUES = 60;
        private Tokens in;
        private Rule into;
        /** VALUES and FACTS made of a SIGN so far. */
        private int values;

        /** The FAULT of the text; 0: it has none. */
        int read(Tokens tokens, Rule rule) {
            in = tokens;
            into = rule;
            into.clear();
            values = 0;
            int clauses = 0;
            do {
                takeWed(clauses);
                into.openClause();
                readSum();
                into.openTest();
                if (in.takes(IF)) {
                    readTest(0);
                }
                into.closeClause();
                clauses++;
            } while (clauses <= MOST_RULE_CLAUSES && in.takes(SEMICOLON));
            in.takeEnd();
            return in.fault;
        }

        private void takeWed(int before) {
            if (in.looked() != WED) {
                in.fail(FAULT_STRANGE);
            } else if (before >= MOST_RULE_CLAUSES) {
                in.fail(FAULT_CLAUSE);
            } else {
                in.move();
            }
        }

        /** An or is held back until the PART behind is whole. */
        private void readTest(int deep) {
            readFact(deep);
            boolean heldBack = false;
            int word = in.looked();
            for (int i = 0; i < MOST_BYTES && (word == AND || word == OR); i++) {
                if (word == OR && heldBack) {
                    into.apply(OR);
                }
                in.move();
                readFact(deep);
                if (word == OR) {
                    heldBack = true;
                } else {
                    into.apply(AND);
                }
                word = in.looked();
            }
            if (heldBack) {
                into.apply(OR);
            }
        }

        private void readFact(int deep) {
            int opens = in.looked();
            if (opens != NOT && opens != OPEN) {
                readSum();
                int sign = takeSign();
                readSum();
                into.apply(sign);
            } else if (deep >= MOST_DEEP) {
                in.fail(FAULT_DEEP);
            } else if (opens == NOT) {
                in.move();
                readFact(deep + 1);
                into.apply(NOT);
            } else {
                in.move();
                readTest(deep + 1);
                if (!in.takes(CLOSE)) {
                    in.fail(FAULT_STRANGE);
                }
            }
        }

        private int takeSign() {
            int sign = in.looked();
            if (sign < LESS || sign > AT_LEAST) {
                in.fail(FAULT_STRANGE);
            } else {
                takeCounted();
            }
            return sign;
        }

        /** What + and - join is held back until the TERM behind is whole. */
        private void readSum() {
            readValue();
            int heldBack = END;
            int sign = in.looked();
            for (int i = 0; i < MOST_BYTES && sign >= PLUS && sign <= REST; i++) {
                boolean joinsTerms = sign == PLUS || sign == MINUS;
                if (joinsTerms && heldBack != END) {
                    into.apply(heldBack);
                }
                in.move();
                readValue();
                if (joinsTerms) {
                    heldBack = sign;
                } else {
                    into.apply(sign);
                }
                sign = in.looked();
            }
            if (heldBack != END) {
                into.apply(heldBack);
            }
        }

        private void readValue() {
            int found = in.looked();
            if (found == LONG_NUMBER) {
                in.fail(FAULT_NUMBER);
            } else if (found == NUMBER) {
                into.push(in.value[in.next]);
                takeCounted();
            } else if (found >= BRIDE) {
                into.apply(found);
                takeCounted();
            } else {
                in.fail(FAULT_STRANGE);
            }
        }

        private void takeCounted() {
            values++;
            if (values > MOST_VALUES) {
                in.fail(FAULT_VALUES);
            } else {
                in.move();
            }
        }
    }

    /** Lets single YEARS pass, and knows what happened in the last one. */
    private static final class Years {
        /** Of each FARM how much WATER it drew. */
        final int[] drawn = new int[MOST_FARMS];
        /** The WELLS that were DUG, as bits. */
        int dug;
        /** In the order of the kinds from BRIDE to YEAR. */
        private final long[] words = new long[YEAR - BRIDE + 1];

        /** 8 * the lesser and the greater FARM that WED; NOTHING: none. */
        int pass(Parish parish, State state, int[] draws, Rule rule) {
            int two = rule == null ? firstTwo(parish, state) : bestTwo(parish, state, rule);
            if (two >= 0) {
                state.marry(two / 8, two % 8);
            }
            drawAll(state, draws);
            rainOnAll(state, parish.rain);
            if ((state.year + 1) % 5 == 0) {
                for (int farm = 0; farm < state.farms; farm++) {
                    state.addHeir(farm);
                }
            }
            state.year++;
            return two;
        }

        private static int firstTwo(Parish parish, State state) {
            for (int one = 0; one < state.farms; one++) {
                for (int other = one + 1; other < state.farms; other++) {
                    if (state.canWed(parish, one, other)) {
                        return 8 * one + other;
                    }
                }
            }
            return NOTHING;
        }

        private int bestTwo(Parish parish, State state, Rule rule) {
            words[HOME - BRIDE] = state.homes();
            words[DRY - BRIDE] = state.dries();
            words[YEAR - BRIDE] = state.year;
            long best = 0;
            int two = NOTHING;
            for (int one = 0; one < state.farms; one++) {
                for (int other = one + 1; other < state.farms; other++) {
                    if (!state.canWed(parish, one, other)) {
                        continue;
                    }
                    tellTwo(state, one, other);
                    long worth = rule.worth(words);
                    if (worth > best) {
                        best = worth;
                        two = 8 * one + other;
                    }
                }
            }
            return two;
        }

        private void tellTwo(State state, int one, int other) {
            int hers = state.has[one];
            int his = state.has[other];
            words[BRIDE - BRIDE] = one;
            words[GROOM - BRIDE] = other;
            words[HERS - BRIDE] = hers;
            words[HIS - BRIDE] = his;
            words[SWEET - BRIDE] = state.taste[hers];
            words[SOUR - BRIDE] = state.taste[his];
            words[FULL - BRIDE] = state.water[hers];
            words[LOW - BRIDE] = state.water[his];
            words[HEIRS - BRIDE] = state.heirs[one] + state.heirs[other];
        }

        private void drawAll(State state, int[] draws) {
            for (int farm = 0; farm < state.farms; farm++) {
                int well = state.has[farm];
                drawn[farm] = Math.min(draws[farm], state.water[well]);
                state.water[well] -= drawn[farm];
            }
        }

        private void rainOnAll(State state, int rain) {
            dug = 0;
            for (int well = 0; well < state.farms; well++) {
                state.addWater(well, rain);
                if (state.water[well] == 0) {
                    state.addDepth(well, 1);
                    dug |= 1 << well;
                }
            }
        }
    }

    /** YEARS that are asked: they pass on a State of its own. */
    private static final class Foresight {
        private static final int CHOICES = MOST_DRAWS + 1;
        private static final int TWOS = CHOICES * CHOICES;
        private final Years years = new Years();
        private final State trial = new State();
        private final int[] draws = new int[MOST_FARMS];
        /** What both FARMS have by each two of DRAWS, those of the first one times CHOICES and those of the second. */
        private final int[] firstHas = new int[TWOS];
        private final int[] secondHas = new int[TWOS];
        /** By each RULE and 1 (0: by none), times MOST_FARMS, and each FARM. */
        private final int[] tasted = new int[(MOST_RULES + 1) * MOST_FARMS];
        /** How many the last answer was about. */
        int most;
        /** What DRAWS come from. */
        int x;

        private void goOn(Parish parish, Rule rule, int n) {
            for (int i = 0; i < n; i++) {
                years.pass(parish, trial, parish.draws, rule);
            }
        }

        State after(World world, Rule rule, int n) {
            trial.copyFrom(world.state);
            goOn(world.parish, rule, n);
            return trial;
        }

        int yearDug(World world, Rule rule, int well) {
            trial.copyFrom(world.state);
            for (int i = 0; i < YEARS_SEARCHED; i++) {
                goOn(world.parish, rule, 1);
                if ((years.dug >> well & 1) != 0) {
                    return trial.year - 1;
                }
            }
            return NOTHING;
        }

        int yearAllAreHome(World world, Rule rule) {
            trial.copyFrom(world.state);
            for (int i = 0; i < YEARS_SEARCHED; i++) {
                goOn(world.parish, rule, 1);
                if (trial.homes() == trial.farms) {
                    return trial.year - 1;
                }
            }
            return NOTHING;
        }

        /** The FARM that had best have an HEIR (NONE: none); most: how many WELLS are at home then. */
        int bestHeir(World world, Rule rule, int n) {
            int best = NONE;
            most = NONE;
            for (int farm = NONE; farm < world.parish.farms; farm++) {
                trial.copyFrom(world.state);
                if (farm >= 0) {
                    trial.addHeir(farm);
                }
                goOn(world.parish, rule, n);
                int homes = trial.homes();
                if (homes > most) {
                    most = homes;
                    best = farm;
                }
            }
            return best;
        }

        /** From the begin on, which the trial is at, as far as there are NOTES. */
        private boolean notesAreSo(World world, Rule rule) {
            int last = world.notes.lastYear();
            for (int n = 0; n <= last; n++) {
                years.pass(world.parish, trial, world.parish.draws, rule);
                if (!world.notes.areSo(n, trial)) {
                    return false;
                }
            }
            return true;
        }

        /** NOTHING: there is none; most: how many there are. */
        int leastDepth(World world, Rule rule, int well) {
            int least = NOTHING;
            most = 0;
            for (int depth = MOST_DEPTH_TOLD; depth >= 1; depth--) {
                trial.begin(world.parish);
                trial.depth[well] = depth;
                trial.water[well] = depth;
                if (notesAreSo(world, rule)) {
                    least = depth;
                    most++;
                }
            }
            return least;
        }

        /** NOTHING: there is none; most: how many there are. */
        int leastTaste(World world, Rule rule, int well) {
            int least = NOTHING;
            most = 0;
            for (int taste = MOST_TASTE; taste >= 0; taste--) {
                trial.begin(world.parish);
                trial.taste[well] = taste;
                if (notesAreSo(world, rule)) {
                    least = taste;
                    most++;
                }
            }
            return least;
        }

        /** Fills what both FARMS have by each two of DRAWS. */
        void play(World world, Rule rule, int one, int other, int n) {
            System.arraycopy(world.parish.draws, 0, draws, 0, MOST_FARMS);
            for (int two = 0; two < TWOS; two++) {
                draws[one] = two / CHOICES;
                draws[other] = two % CHOICES;
                firstHas[two] = 0;
                secondHas[two] = 0;
                trial.copyFrom(world.state);
                for (int i = 0; i < n; i++) {
                    years.pass(world.parish, trial, draws, rule);
                    firstHas[two] += gainOf(one);
                    secondHas[two] += gainOf(other);
                }
            }
        }

        private int gainOf(int farm) {
            boolean without = trial.water[trial.has[farm]] == 0;
            return without ? years.drawn[farm] - 3 : years.drawn[farm];
        }

        /** The first of the RESTS (NOTHING: there is none); most: how many there are. */
        int findRests() {
            int first = NOTHING;
            most = 0;
            for (int two = TWOS - 1; two >= 0; two--) {
                if (isRest(two)) {
                    first = two;
                    most++;
                }
            }
            return first;
        }

        private boolean isRest(int two) {
            int one = two / CHOICES;
            int other = two % CHOICES;
            for (int choice = 0; choice < CHOICES; choice++) {
                if (firstHas[choice * CHOICES + other] > firstHas[two]) {
                    return false;
                }
                if (secondHas[one * CHOICES + choice] > secondHas[two]) {
                    return false;
                }
            }
            return true;
        }

        /** By which RULES all NOTES are so: bit 0 for none, bit r + 1 for RULE r. */
        int ruledBits(World world, Rule[] rules, int ruleCount) {
            int bits = 0;
            for (int candidate = 0; candidate <= ruleCount; candidate++) {
                trial.begin(world.parish);
                if (notesAreSo(world, ruleOf(rules, candidate))) {
                    bits |= 1 << candidate;
                }
            }
            return bits;
        }

        /** NONE: none; NOTHING: there is none such. */
        int firstRuled(int bits) {
            for (int candidate = 0; candidate <= MOST_RULES; candidate++) {
                if ((bits >> candidate & 1) != 0) {
                    return candidate - 1;
                }
            }
            return NOTHING;
        }

        private static Rule ruleOf(Rule[] rules, int candidate) {
            return candidate > 0 && candidate <= rules.length ? rules[candidate - 1] : null;
        }

        /** By each candidate, behind the n-th YEAR of all: YEAR 0 is the first one, so n + 1 have passed then. */
        void tasteAll(World world, Rule[] rules, int bits, int n) {
            for (int candidate = 0; candidate <= MOST_RULES; candidate++) {
                if ((bits >> candidate & 1) == 0) {
                    continue;
                }
                trial.begin(world.parish);
                goOn(world.parish, ruleOf(rules, candidate), n + 1);
                for (int farm = 0; farm < trial.farms; farm++) {
                    tasted[candidate * MOST_FARMS + farm] = trial.taste[trial.has[farm]];
                }
            }
        }

        /** The FARM by whose tasted WELL the candidates part best; most: how many are alike at most. */
        int farmThatParts(int farms, int bits) {
            int best = 0;
            most = MOST_RULES + 2;
            for (int farm = 0; farm < farms; farm++) {
                int alike = mostAlike(farm, bits);
                if (alike < most) {
                    most = alike;
                    best = farm;
                }
            }
            return best;
        }

        private int mostAlike(int farm, int bits) {
            int mostOfAll = 0;
            for (int one = 0; one <= MOST_RULES; one++) {
                if ((bits >> one & 1) == 0) {
                    continue;
                }
                int alike = 0;
                for (int other = one; other <= MOST_RULES; other++) {
                    boolean same = tasted[one * MOST_FARMS + farm] == tasted[other * MOST_FARMS + farm];
                    if ((bits >> other & 1) != 0 && same) {
                        alike++;
                    }
                }
                mostOfAll = Math.max(mostOfAll, alike);
            }
            return mostOfAll;
        }

        private int nextDraw() {
            x = (int) ((x * 1103515245L + 12345L) & 2147483647L);
            return x / 65536;
        }

        State afterDroughts(World world, Rule rule, int n, int p) {
            trial.copyFrom(world.state);
            for (int i = 0; i < n; i++) {
                if (nextDraw() % 100 < p && trial.farms > 0) {
                    trial.water[trial.has[nextDraw() % trial.farms]] = 0;
                }
                goOn(world.parish, rule, 1);
            }
            return trial;
        }
    }

    /**
     * Of all LIES how many WEDDINGS they are from home, for FARMS that are KIN as they were asked last. Swaps
     * don't see the names of WELLS: a LIE is as far from another one as it is from home when each WELL is
     * called as the FARM that has it there. So one table serves all LIES of a PARISH.
     */
    private static final class LieTable {
        private static final int MOST_LIES = 5040;
        /** NONE: it can't be reached. By the place of the LIE among all, in their order. */
        private final byte[] away = new byte[MOST_LIES];
        /** Those that can be reached, the nearest first. */
        private final short[] reached = new short[MOST_LIES];
        private int size;
        /** The FARMS that the table is for, and their KIN, as bits; 0: none yet. */
        private int filledFor;
        private final int[] row = new int[MOST_FARMS];
        private final int[] digits = new int[MOST_FARMS];
        /** The LIE that is aimed at, by WELLS that are called as the FARMS that have them now. */
        private final int[] aim = new int[MOST_FARMS];
        private int farms;

        private static int bitsOf(Parish parish) {
            int bits = parish.farms;
            for (int one = 0; one < parish.farms; one++) {
                for (int other = one + 1; other < parish.farms; other++) {
                    bits = bits * 2 + (parish.areKin(one, other) ? 1 : 0);
                }
            }
            return bits;
        }

        private void fillFor(Parish parish) {
            int wanted = bitsOf(parish);
            farms = parish.farms;
            if (filledFor == wanted) {
                return;
            }
            filledFor = wanted;
            for (int i = 0; i < MOST_LIES; i++) {
                away[i] = NONE;
            }
            // The LIE with all at home is the first of all.
            away[0] = 0;
            reached[0] = 0;
            size = 1;
            for (int i = 0; i < size && i < MOST_LIES; i++) {
                reachFrom(parish, reached[i]);
            }
        }

        private void reachFrom(Parish parish, int from) {
            spread(from);
            for (int one = 0; one < farms; one++) {
                for (int other = one + 1; other < farms; other++) {
                    if (!parish.areKin(one, other)) {
                        continue;
                    }
                    swap(row, one, other);
                    int to = placeOf(row);
                    swap(row, one, other);
                    if (away[to] == NONE && size < MOST_LIES) {
                        away[to] = (byte) (away[from] + 1);
                        reached[size] = (short) to;
                        size++;
                    }
                }
            }
        }

        private static void swap(int[] numbers, int one, int other) {
            int kept = numbers[one];
            numbers[one] = numbers[other];
            numbers[other] = kept;
        }

        /** Among all rows of so many FARMS, in their order. */
        private int placeOf(int[] numbers) {
            int place = 0;
            int used = 0;
            for (int i = 0; i < farms; i++) {
                int bit = 1 << numbers[i];
                place = place * (farms - i) + numbers[i] - Integer.bitCount(used & (bit - 1));
                used |= bit;
            }
            return place;
        }

        /** Makes the row that has that place. */
        private void spread(int place) {
            int left = place;
            for (int i = farms - 1; i >= 0; i--) {
                digits[i] = left % (farms - i);
                left /= farms - i;
            }
            int used = 0;
            for (int i = 0; i < farms; i++) {
                int skip = digits[i];
                int number = 0;
                while (number < farms - 1 && ((used >> number & 1) != 0 || skip > 0)) {
                    if ((used >> number & 1) == 0) {
                        skip--;
                    }
                    number++;
                }
                row[i] = number;
                used |= 1 << number;
            }
        }

        /** False: that is no LIE of all WELLS. */
        boolean aimAt(World world, int lie) {
            fillFor(world.parish);
            int left = lie;
            int seen = 0;
            for (int farm = farms - 1; farm >= 0; farm--) {
                int well = left % 10 - 1;
                left /= 10;
                if (well < 0 || well >= farms || (seen >> well & 1) != 0) {
                    return false;
                }
                seen |= 1 << well;
                aim[farm] = world.state.farmThatHas(well);
            }
            return left == 0;
        }

        /** NOTHING: it can't be reached. */
        int fewestLeft() {
            int fewest = away[placeOf(aim)];
            return fewest == NONE ? NOTHING : fewest;
        }

        /** The i-th WEDDING to what is aimed at, as 8 * the lesser FARM and the greater one; NOTHING: there is none. */
        int wedding(Parish parish, int i) {
            int fewest = fewestLeft();
            if (i >= fewest) {
                return NOTHING;
            }
            int two = NOTHING;
            for (int gone = 0; gone <= i; gone++) {
                two = nextWedding(parish, fewest - gone - 1);
            }
            return two;
        }

        /** The first one by which so many are left; it is done, too. */
        private int nextWedding(Parish parish, int left) {
            for (int one = 0; one < farms; one++) {
                for (int other = one + 1; other < farms; other++) {
                    if (!parish.areKin(one, other)) {
                        continue;
                    }
                    swapNames(one, other);
                    if (fewestLeft() == left) {
                        return 8 * one + other;
                    }
                    swapNames(one, other);
                }
            }
            return NOTHING;
        }

        /** When two FARMS WED, each of their WELLS is called as the other one was. */
        private void swapNames(int one, int other) {
            for (int farm = 0; farm < farms; farm++) {
                if (aim[farm] == one) {
                    aim[farm] = other;
                } else if (aim[farm] == other) {
                    aim[farm] = one;
                }
            }
        }

        int reachedWithin(Parish parish, int n) {
            fillFor(parish);
            int many = 0;
            while (many < size && away[reached[many]] <= n) {
                many++;
            }
            return many;
        }

        int most(Parish parish) {
            fillFor(parish);
            return size > 0 ? away[reached[size - 1]] : 0;
        }

        int leastOfFarthest(World world) {
            int farthest = most(world.parish);
            int least = NO_LIE;
            for (int i = size - 1; i >= 0 && away[reached[i]] == farthest; i--) {
                spread(reached[i]);
                int number = 0;
                for (int farm = 0; farm < farms; farm++) {
                    number = number * 10 + world.state.has[row[farm]] + 1;
                }
                least = Math.min(least, number);
            }
            return least;
        }
    }
}

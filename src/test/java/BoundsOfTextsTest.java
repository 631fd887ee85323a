/** The boundaries of what is told: the sentences of 'Terms', I, and of promises 1 to 6. */
public final class BoundsOfTextsTest {
    private static final String TWO = "parish 2 0;kin 0 1";
    private static final String WEDS = "wed 1 if ";

    public static void main(String[] args) {
        newObject();
        placesOfBytes();
        fullTape();
        ends();
        fullTexts();
        clausesOfParish();
        parishOnceAndFirst();
        numbersOfParish();
        farmsOfClauses();
        lastTold();
        untold();
        kinToldAgain();
        beginOfParish();
        newParish();
        faultyParish();
        numbersOfRules();
        sixRules();
        faultyRule();
        clausesOfRule();
        digits();
        letters();
        lettersOfWords();
        signs();
        wordsOfAll();
        towardsZero();
        byZero();
        sixtyFourBits();
        blanks();
        deep();
        sixty();
        endOfText();
        placesOfFaults();
        firstFault();
        leastFault();
        forces();
        Checks.close("BoundsOfTextsTest");
    }

    // ---- a new object, the TAPE

    private static void newObject() {
        Checks.says("No PARISH, no RULES, none IN FORCE.");
        Checks c = new Checks();
        c.due(0, "count", 0).due(0, "count", 2).due(-1, "count", 3).due(0, "count", 12);
        c.still(-1, "lie").still(-2, "force", 0).still(-1, "year").still(-1, "undo");
        for (int k = 0; k < 4; k++) {
            c.still(-1, "back", k);
        }
        Checks.says("x (0 to 2147483647; 0 at first)");
        c.due(0, "count", 11).due(0, "seed", 0);
    }

    /** A byte that can't stand there has its FAULT at its own place, whichever of the twenty it is. */
    private static void placesOfBytes() {
        Checks.says("Twenty bytes come behind the TAPE, of each number the highest first: how many it has");
        for (int place = 0; place < 20; place++) {
            for (int sign : new int[] {255, 128, 127, 1, 0}) {
                int[] fives = {0x20202020, 0x20202020, 0x20202020, 0x20202020, 0x20202020};
                int shift = 24 - 8 * (place % 4);
                fives[place / 4] += (sign - 32) << shift;
                Checks c = new Checks().due(20, "feed", fives);
                c.due(40, "feed", 0x20202020, 0x20202020, 0x20202020, 0x20202020, 0x20202020);
                c.due(-2 - (1 + 8 * place), "parish");
            }
        }
    }

    private static void fullTape() {
        Checks.says("NONE, and none comes, if it would have more than 400.");
        for (int size = 380; size <= 400; size++) {
            Checks c = new Checks().tell(TWO + " ".repeat(size - TWO.length())).due(size, "count", 12);
            if (size == 380) {
                c.due(400, "feed", 0x20202020, 0x20202020, 0x20202020, 0x20202020, 0x20202020).due(2, "parish");
            } else {
                c.still(-1, "feed", 1, 2, 3, 4, 5).due(size, "count", 12).due(2, "parish");
            }
        }
        new Checks().due(20, "feed", 0, 0, 0, 0, 0).due(1, "end", 1).due(21, "feed", 0, 0, 0, 0, 0);
    }

    private static void ends() {
        Checks.says("The TAPE has its first n bytes alone: n; NONE, and nothing happens, if it has not so many, or n is below 0.");
        new Checks().due(0, "end", 0).still(-1, "end", 1).still(-1, "end", -1);
        Checks c = Checks.rich().still(-1, "end", 19).still(-1, "end", -1).still(-1, "end", Integer.MIN_VALUE)
                .still(-1, "end", Integer.MAX_VALUE).still(18, "end", 18);
        c.due(17, "end", 17).due(17, "count", 12).still(-1, "end", 18).due(-2 - (1 + 8 * 17), "parish");
        c = new Checks().tell(" ".repeat(400)).still(400, "end", 400).still(-1, "end", 401).due(399, "end", 399)
                .due(0, "end", 0).due(0, "count", 12);
        // What was cut off does not come back with the bytes behind it.
        c.tell("parish 2 0;kin 0 1").due(10, "end", 10).tell(";farm 0 3 4").due(2, "parish").due(0, "farm", 0, 3)
                .due(3, "farm", 0, 0);
    }

    // ---- a PARISH

    private static void fullTexts() {
        Checks.says("A PARISH is a text of at most 400 bytes");
        String kin = ";kin 0 1";
        Checks c = new Checks().parish("parish 2 0" + " ".repeat(382) + kin).due(2, "farm", 0, 3);
        c.parish(" ".repeat(390) + "parish 2 9").due(9, "count", 1);
        // As many signs and words as there can be are bytes that can't stand there, the first of them first.
        for (String sign : new String[] {";", "[", "<", "x ", "0 ", "\u00ff"}) {
            Checks.parishFault(sign.repeat(400).substring(0, 400), 0, 0);
            Checks.ruleFault(sign.repeat(400).substring(0, 400), 0, 0);
        }
        Checks.says("RULES 0 to 5: texts likewise");
        new Checks().parish(TWO).rule("wed 0" + " ".repeat(393) + "+1").due(-1, "force", 0).due(1, "year");
    }

    private static void clausesOfParish() {
        Checks.says("CLAUSE { ; CLAUSE }, 40 at most");
        String most = "parish 2 0" + ";kin0 1".repeat(38);
        new Checks().parish(most).due(2, "farm", 0, 3);
        new Checks().parish(most + ";farm 1 5 8").due(5, "farm", 1, 0).due(8, "farm", 1, 1);
        Checks.says("4 one CLAUSE too many .. (at its first byte)");
        String full = most + ";kin0 1";
        for (String more : new String[] {"kin 0 1", "well 0 1 1", "farm 0 1 1", "parish 2 0", "kin", "well x"}) {
            Checks.parishFault(full + ";" + more, full.length() + 1, 4);
            Checks.parishFault(full + " ;  " + more, full.length() + 4, 4);
        }
        Checks.says("A PARISH is .. CLAUSE { ; CLAUSE }: one at least");
        Checks.parishFault("", 0, 0);
        Checks.parishFault(";parish 2 0", 0, 0);
        new Checks().parish("parish 2 0").due(2, "count", 0);
    }

    private static void parishOnceAndFirst() {
        Checks.says("parish NUMBER NUMBER (.. once, the first CLAUSE); 4 .. a second parish, another CLAUSE ahead of it");
        for (String other : new String[] {"well 0 1 0", "farm 0 1 0", "kin 0 1"}) {
            Checks.parishFault(other, 0, 4);
            Checks.parishFault("  " + other + ";parish 2 0", 2, 4);
            Checks.parishFault("parish 2 0;" + other + "; parish 3 0", 11 + other.length() + 2, 4);
        }
        Checks.parishFault("parish 2 0;parish 2 0", 11, 4);
        Checks.parishFault("parish 2 0;parish", 11, 4);
    }

    /** A NUMBER stands from least to most; what the call answers behind is the same. */
    private static void range(String before, String after, int least, int most, String name, int... ask) {
        for (int v = least; v <= most; v++) {
            new Checks().parish(before + v + after).due(v, name, ask);
        }
        new Checks().parish(before + "0000" + least + after).due(least, name, ask);
        int place = before.length();
        Checks.parishFault(before + (most + 1) + after, place, 1);
        Checks.parishFault(before + "99999" + after, place, 1);
        // 65536 and 4294967296 more would look alike in fewer bits.
        Checks.parishFault(before + (65536 + least) + after, place, 1);
        Checks.parishFault(before + (4294967296L + least) + after, place, 1);
        Checks.parishFault(before + "00000" + least + after, place, 1);
        if (least > 0) {
            Checks.parishFault(before + (least - 1) + after, place, 1);
        }
        Checks.parishFault(before + "-" + least + after, place, 0);
        Checks.parishFault(before + "x" + after, place, 0);
    }

    private static void numbersOfParish() {
        Checks.says("FARMS 2 to 7");
        range("parish ", " 0", 2, 7, "count", 0);
        Checks.says("RAIN 0 to 9");
        range("parish 2 ", "", 0, 9, "count", 1);
        Checks.says("DEPTH 1 to 30");
        range("parish 2 0;well 1 ", " 5", 1, 30, "well", 1, 0);
        Checks.says("each WELL .. has as much WATER as DEPTH");
        range("parish 2 0;well 1 ", " 5", 1, 30, "well", 1, 2);
        Checks.says("TASTE 0 to 60");
        range("parish 2 0;well 1 3 ", "", 0, 60, "well", 1, 1);
        Checks.says("DRAWS 0 to 5");
        range("parish 2 0;farm 1 ", " 3", 0, 5, "farm", 1, 0);
        Checks.says("HEIRS 0 to 9");
        range("parish 2 0;farm 1 3 ", "", 0, 9, "farm", 1, 1);
        Checks.says("parish(): how many FARMS");
        for (int farms = 2; farms <= 7; farms++) {
            new Checks().tell("parish " + farms + " 0").due(farms, "parish");
        }
    }

    private static void farmsOfClauses() {
        Checks.says("FARMS 2 to 7, 0 to FARMS - 1 .. well NUMBER, farm NUMBER (a FARM), kin NUMBER NUMBER (two FARMS)");
        for (int farms = 2; farms <= 7; farms++) {
            String parish = "parish " + farms + " 0;";
            int last = farms - 1;
            new Checks().parish(parish + "well " + last + " 7 8;farm " + last + " 4 5;kin " + last + " 0")
                    .due(7, "well", last, 0).due(8, "well", last, 1).due(4, "farm", last, 0).due(5, "farm", last, 1)
                    .due(1, "farm", last, 3).due(1 << last, "farm", 0, 3);
            new Checks().parish(parish + "kin 0 " + last).due(1, "farm", last, 3).due(1 << last, "farm", 0, 3);
            Checks.parishFault(parish + "well " + farms + " 7 8", 16, 1);
            Checks.parishFault(parish + "farm " + farms + " 4 5", 16, 1);
            Checks.parishFault(parish + "kin " + farms + " 0", 15, 1);
            Checks.parishFault(parish + "kin 0 " + farms, 17, 1);
        }
        Checks.says("1 a NUMBER .. not as told (of kin the second FARM, if it is the first)");
        for (int farm = 0; farm < 7; farm++) {
            Checks.parishFault("parish 7 0;kin " + farm + " " + farm, 17, 1);
            Checks.parishFault("parish 7 0;kin " + farm + " 0000" + farm, 17, 1);
        }
        Checks.parishFault("parish 2 0;kin 2 2", 15, 1);
    }

    private static void lastTold() {
        Checks.says("well ..: of one the last told");
        Checks c = new Checks().parish("parish 3 0;well 1 30 60;well 0 3 3;well 1 1 0");
        c.due(1, "well", 1, 0).due(0, "well", 1, 1).due(1, "well", 1, 2).due(3, "well", 0, 0).due(9, "well", 2, 0);
        Checks.says("farm ..: of one the last told");
        c = new Checks().parish("parish 3 0;farm 1 0 9;farm 0 3 3;farm 1 5 0");
        c.due(5, "farm", 1, 0).due(0, "farm", 1, 1).due(3, "farm", 0, 0).due(3, "farm", 0, 1);
    }

    private static void untold() {
        Checks.says("DEPTH 9, TASTE 0 without .. 1 and 2 without");
        Checks c = new Checks().parish("parish 7 0;well 3 5 5;farm 3 4 5;kin 0 1");
        // What another PARISH told does not stay.
        c.parish("parish 7 0");
        for (int i = 0; i < 7; i++) {
            c.due(9, "well", i, 0).due(0, "well", i, 1).due(9, "well", i, 2).due(1, "farm", i, 0).due(2, "farm", i, 1)
                    .due(0, "farm", i, 3);
        }
        c.due(0, "count", 8);
    }

    private static void kinToldAgain() {
        Checks.says("kin NUMBER NUMBER (.. told already, either way round: nothing new)");
        new Checks().parish("parish 3 0;kin 0 2;kin 0 2;kin 2 0").due(4, "farm", 0, 3).due(0, "farm", 1, 3)
                .due(1, "farm", 2, 3).due(1, "count", 8).due(2, "lies", 30);
    }

    private static void beginOfParish() {
        Checks.says("It is YEAR 0; each WELL is at home and has as much WATER as DEPTH.");
        Checks c = Checks.rich().due(3, "count", 0).due(1, "count", 4).due(2, "parish").due(0, "count", 4);
        c.due(12, "lie").due(3, "count", 5).due(18, "count", 6).due(4, "count", 7).due(0, "well", 0, 3).due(1, "well", 1, 3);
    }

    private static void newParish() {
        Checks.says("in place of the one there was (no NOTES, nothing to be UNDONE; the RULE IN FORCE and x stay)");
        Checks c = Checks.rich().due(2, "count", 9).due(5, "count", 10).due(0, "count", 3).due(7, "count", 11);
        c.due(2, "parish").due(0, "count", 9).due(0, "count", 10).still(-1, "undo").due(0, "count", 3).due(7, "count", 11)
                .due(2, "count", 2).due(5, "count", 1).due(2, "farm", 0, 3);
        Checks.says("The TAPE, which is empty then");
        c.due(0, "count", 12);
    }

    private static void faultyParish() {
        Checks.says("parish(): -2 - its FAULT, and all stays.");
        Checks.rich().due(0, "end", 0).faulty("parish", 0, 0);
        Checks.rich().due(0, "end", 0).tell("parish 2 0;x").faulty("parish", 11, 0);
        Checks.rich().due(0, "end", 0).tell("parish 2 1;well 0 1 61").faulty("parish", 20, 1);
        Checks.rich().due(0, "end", 0).tell("parish 2 1;kin 0 1;parish 2 2").faulty("parish", 19, 4);
        Checks.rich().tell(";kin 0 0").faulty("parish", 25, 1);
        new Checks().tell("kin 0 1").faulty("parish", 0, 4).still(-1, "lie");
    }

    // ---- RULES

    private static void numbersOfRules() {
        Checks.says("rule(): The TAPE, which is empty then, is a RULE: its number");
        Checks c = new Checks().parish(TWO);
        for (int i = 0; i < 6; i++) {
            c.tell("wed 1 if year=" + i).due(i, "rule").due(0, "count", 12).due(i + 1, "count", 2);
        }
        // Each of them is still its own.
        for (int i = 0; i < 6; i++) {
            c.due(i - 1, "force", i).due(12, "ahead", 0, i, 0).due(21, "ahead", 0, i + 1, 0);
        }
    }

    private static void sixRules() {
        Checks.says("NONE, and nothing happens: there are 6.");
        Checks c = Checks.rich().due(0, "end", 0);
        for (int i = 2; i < 6; i++) {
            c.rule("wed " + i);
        }
        c.still(-1, "rule").tell("wed 1").still(-1, "rule").due(5, "count", 12).tell("x").still(-1, "rule")
                .due(6, "count", 12).due(6, "count", 2);
    }

    private static void faultyRule() {
        Checks.says("rule(): -2 - its FAULT");
        Checks.rich().faulty("rule", 0, 0);
        Checks.rich().due(0, "end", 0).faulty("rule", 0, 0);
        Checks.rich().due(0, "end", 0).tell("wed 0 if 1<2;wed 123456").faulty("rule", 17, 1);
        Checks.rich().due(0, "end", 0).tell(WEDS + "[[[[[[[[[[[").faulty("rule", 19, 2);
        Checks.rich().due(0, "end", 0).tell("wed 1" + "+1".repeat(60)).faulty("rule", 124, 3);
        Checks.rich().due(0, "end", 0).tell("wed 1" + ";wed 1".repeat(12)).faulty("rule", 72, 4);
        // The number is that of the next one without a FAULT.
        Checks.rich().due(0, "end", 0).tell("wed").due(-2 - 25, "rule").tell("wed 1").due(2, "rule").due(3, "count", 2);
        // Nothing of a text with a FAULT is in the next one.
        Checks c = new Checks().parish(TWO).tell("wed 0;wed 0 if 1<2;x").due(-2 - (1 + 8 * 19), "rule");
        c.tell("wed 1 if 1>2;wed 1").due(0, "rule").due(-1, "force", 0).due(1, "year");
        c = new Checks().parish(TWO).tell("wed 1;wed 1;wed 1;x").due(-2 - (1 + 8 * 18), "rule");
        c.tell("wed 1 if 1>2").due(0, "rule").due(-1, "force", 0).due(-2, "year");
        c = new Checks().parish(TWO);
        for (int i = 0; i < 12; i++) {
            c.tell("wed 1" + "+1".repeat(58) + ";x").due(-2 - (1 + 8 * 122), "rule").due(0, "count", 2);
        }
        c.rule("wed 1 if " + "1+".repeat(56) + "1=57").due(-1, "force", 0).due(1, "year");
        // Without a PARISH, too.
        new Checks().tell("wed 1").due(0, "rule").due(1, "count", 2).tell("wed").faulty("rule", 3, 0);
    }

    private static void clausesOfRule() {
        Checks.says("RULES .. 12 CLAUSES at most");
        String eleven = "wed 0 if 1>2;".repeat(11);
        holds(true, eleven + "wed 1");
        holds(false, eleven + "wed 0");
        holds(false, eleven + "wed 1 if 1>2");
        Checks.says("4 one CLAUSE too many .. (at its first byte)");
        String twelve = eleven + "wed 0 if 1>2";
        Checks.ruleFault(twelve + ";wed 1", twelve.length() + 1, 4);
        Checks.ruleFault(twelve + " ;  wed", twelve.length() + 4, 4);
        Checks.ruleFault("", 0, 0);
    }

    /** Two FARMS WED by the RULE, or don't. */
    private static void holds(boolean want, String rule) {
        new Checks().parish(TWO).rule(rule).due(-1, "force", 0).due(want ? 1 : -2, "year");
    }

    private static void digits() {
        Checks.says("NUMBER (1 to 5 digits, as far as digits go on)");
        holds(true, WEDS + "99999=99998+1 and 99999>9999 and 9=00009");
        holds(true, "wed 00001");
        holds(false, "wed 00000");
        Checks.says("1 a NUMBER of more digits");
        Checks.ruleFault("wed 100000", 4, 1);
        Checks.ruleFault("wed 000001", 4, 1);
        Checks.ruleFault(WEDS + "1 < 9999999999999999999999", 13, 1);
        Checks.ruleFault("wed 1+4294967297", 6, 1);
        Checks.says("as far as digits go on: one behind a blank is another NUMBER");
        Checks.ruleFault("wed 12345 6", 10, 0);
        Checks.parishFault("parish 2 0 0", 11, 0);
        Checks.parishFault("parish 23", 7, 1);
    }

    private static void letters() {
        Checks.says("WORDS (small letters, as far as these go on)");
        for (String word : new String[] {"bride", "groom", "hers", "his", "sweet", "sour", "full", "low", "heirs", "home",
            "dry", "year"}) {
            new Checks().rule("wed " + word).rule("wed1*" + word + " if " + word + "<1");
            Checks.ruleFault("wed " + word + "s", 4, 0);
            Checks.ruleFault("wed " + word.substring(1), 4, 0);
            Checks.ruleFault("wed " + word.substring(0, word.length() - 1), 4, 0);
            Checks.ruleFault("wed" + word, 0, 0);
            Checks.ruleFault("wed " + word + "X", 4 + word.length(), 0);
            Checks.ruleFault("wed " + word.toUpperCase(), 4, 0);
            Checks.ruleFault("wed " + word + "a", 4, 0);
            Checks.ruleFault("wed " + word + "z", 4, 0);
            Checks.ruleFault(word, 0, 0);
            Checks.ruleFault("wed 1+" + word + " " + word, 7 + word.length(), 0);
        }
        // The signs next to the small letters and to the digits are none.
        for (String sign : new String[] {"`", "{", "@", "[", "/", ":"}) {
            Checks.ruleFault("wed " + sign, 4, 0);
            Checks.ruleFault("we" + sign, 0, 0);
        }
        Checks.ruleFault("wed 1:", 5, 0);
        Checks.ruleFault("wed 1 iff 1<2", 6, 0);
        Checks.ruleFault(WEDS + "1<2 andnot 1<2", 13, 0);
        Checks.ruleFault(WEDS + "notnot 1<2", 9, 0);
        holds(true, "wed1if1<2or1<2and1<2");
    }

    /** The same word but for one letter can't stand where the word can. */
    private static void eachLetter(String before, String word, String after, boolean ofParish) {
        for (int i = 0; i < word.length(); i++) {
            String other = before + word.substring(0, i) + "z" + word.substring(i + 1) + after;
            if (ofParish) {
                Checks.parishFault(other, before.length(), 0);
            } else {
                Checks.ruleFault(other, before.length(), 0);
            }
        }
    }

    private static void lettersOfWords() {
        Checks.says("0 a byte or WORD that can't stand there");
        eachLetter("", "parish", " 2 0", true);
        eachLetter("parish 2 0;", "well", " 0 1 1", true);
        eachLetter("parish 2 0;", "farm", " 0 1 1", true);
        eachLetter("parish 2 0;", "kin", " 0 1", true);
        eachLetter("", "wed", " 1", false);
        eachLetter("wed 1 ", "if", " 1<2", false);
        eachLetter(WEDS + "1<2 ", "or", " 1<2", false);
        eachLetter(WEDS + "1<2 ", "and", " 1<2", false);
        eachLetter(WEDS, "not", " 1<2", false);
        for (String word : new String[] {"bride", "groom", "hers", "his", "sweet", "sour", "full", "low", "heirs", "home",
            "dry", "year"}) {
            eachLetter("wed ", word, "", false);
        }
        // What a SUM can have is no CLAUSE, nor a SIGN.
        Checks.ruleFault("1", 0, 0);
        Checks.ruleFault("wed 1;1", 6, 0);
        Checks.ruleFault(WEDS + "1 2", 11, 0);
        Checks.ruleFault(WEDS + "1 home", 11, 0);
        Checks.ruleFault(WEDS + "1+1;wed 1", 12, 0);
        Checks.ruleFault(WEDS + "[1<2;wed 1]", 13, 0);
        Checks.ruleFault("wed bride well", 10, 0);
    }

    private static void signs() {
        Checks.says("SUM SIGN SUM, SIGN one of < <= = >= >");
        String[] signs = {"<", "<=", "=", ">=", ">"};
        for (int i = 0; i < 5; i++) {
            holds(i <= 1, WEDS + "6" + signs[i] + "7");
            holds(i >= 1 && i <= 3, WEDS + "7" + signs[i] + "7");
            holds(i >= 3, WEDS + "8" + signs[i] + "7");
            holds(i > 1, WEDS + "not 6 " + signs[i] + " 7");
            holds(i < 1 || i > 3, WEDS + "not 7 " + signs[i] + " 7");
            holds(i < 3, WEDS + "not 8 " + signs[i] + " 7");
        }
        for (String other : new String[] {"!=", "<>", "==", "=<", "=>", "<<", ">>", "><"}) {
            Checks.ruleFault(WEDS + "1" + other + "2", other.charAt(0) == '!' ? 10 : 11, 0);
        }
        Checks.says("TEST: PART { or PART }. PART: FACT { and FACT }.");
        for (int facts = 0; facts < 32; facts++) {
            String[] f = new String[5];
            boolean[] is = new boolean[5];
            for (int i = 0; i < 5; i++) {
                is[i] = (facts >> i & 1) != 0;
                f[i] = is[i] ? "1<2" : "1>2";
            }
            holds(is[0] || is[1] && is[2] || is[3], WEDS + f[0] + " or " + f[1] + " and " + f[2] + " or " + f[3]);
            holds(is[0] || is[1] || is[2] || is[3], WEDS + f[0] + " or " + f[1] + " or " + f[2] + " or " + f[3]);
            holds(is[0] && is[1] && is[2] || is[3] && is[4],
                    WEDS + f[0] + " and " + f[1] + " and " + f[2] + " or " + f[3] + " and " + f[4]);
            holds(!is[0] && (is[1] || is[2]), WEDS + "not " + f[0] + " and [" + f[1] + " or " + f[2] + "]");
        }
    }

    /** Of these WELLS those at home and dry ones are counted in the YEAR that is to pass. */
    private static void wordsOfAll() {
        Checks.says("home (how many WELLS are at home), dry (how many have no WATER), year");
        String parish = "parish 3 0;kin 0 1;kin 1 2;well 0 1 0;well 1 2 0;well 2 3 0;farm 0 1 9;farm 1 1 9;farm 2 1 9";
        Checks c = new Checks().parish(parish).rule("wed 1 if dry=3 and home=3 and year=3;wed 2 if dry=3 and home<2 and year=4")
                .rule("wed 1 if dry=0 and home=3 and year=0").rule("wed 1 if dry=1").rule("wed 1 if dry=2");
        c.due(-1, "force", 0).due(-2, "year").due(-2, "year").due(-2, "year").due(1, "year").due(1, "year");
        c.parish(parish).due(0, "force", 1).due(1, "year");
        c.parish(parish).due(1, "force", 2).due(-2, "year").due(1, "year");
        c.parish(parish).due(2, "force", 3).due(-2, "year").due(-2, "year").due(1, "year");
    }

    /** A TERM is below 0 only when it has gone round: 3 * 2^62 is -2^62. */
    private static void towardsZero() {
        Checks.says("/ is towards 0, % its rest");
        String below = "3*32768*32768*32768*32768*4";
        holds(true, WEDS + below + "<0 and " + below + "/4*4=" + below);
        // -2^62 is -1537228672809129301 * 3 and -1.
        holds(true, WEDS + below + "/3*3=" + below + "+1");
        holds(true, WEDS + below + "%3=0-1");
        holds(true, WEDS + "7/2=3 and 7%2=1 and 6/7=0 and 6%7=6 and 7/7=1 and 7%7=0");
    }

    private static void byZero() {
        Checks.says("both 0 by 0");
        // bride is 0.
        holds(true, WEDS + "7/0=0 and 7%0=0 and 0/0=0 and 0%0=0 and 7/bride=0 and 7%bride=0");
        holds(true, "wed 7/0+1");
        holds(false, "wed 7/0");
        holds(false, "wed 7%bride");
        holds(true, WEDS + "9-7%0*5=9 and 7/1=7 and 7%1=0");
    }

    private static void sixtyFourBits() {
        Checks.says("all goes round in 64 bits");
        String least = "32768*65536*65536*65536";
        holds(false, "wed " + least);
        holds(true, "wed " + least + "-1");
        holds(true, WEDS + least + "<0 and " + least + "-1>0 and 65536*65536*65536*65536=0");
        holds(true, WEDS + "32767*65536*65536*65536>0 and 0-" + least + "<0");
        // 32 bits would be too few, of the SUM and of how it is compared.
        holds(true, "wed 65536*65536");
        holds(true, "wed 65536*32768");
        holds(true, WEDS + "65536*65536>1 and 50000*50000>0");
        new Checks().parish("parish 3 0;kin 0 1;kin 1 2").rule("wed 65536*65536 if bride=1;wed 65535").due(-1, "force", 0)
                .due(10, "year");
    }

    private static void blanks() {
        Checks.says("Blanks (32) stand between as one likes.");
        new Checks().parish("  parish   2   0  ;  kin   0   1  ").due(2, "farm", 0, 3).parish("parish2 0;kin0 1;well0 1 1");
        holds(true, "   wed   1   if   [   1   <=   2   ]   ");
        for (char other : new char[] {0, 9, 10, 11, 13, 31, 33, 127, 160, 255}) {
            Checks.parishFault("parish" + other + "2 0", 6, 0);
            Checks.parishFault("parish 2 0" + other, 10, 0);
            Checks.ruleFault(other + "wed 1", 0, 0);
        }
        Checks.ruleFault(WEDS + "1 < = 2", 13, 0);
        Checks.ruleFault(WEDS + "1 > = 2", 13, 0);
        Checks.ruleFault("we d 1", 0, 0);
        Checks.parishFault("par ish 2 0", 0, 0);
    }

    private static void deep() {
        Checks.says("[ and not lie within one another 10 deep at most.");
        holds(true, WEDS + "[".repeat(10) + "1<2" + "]".repeat(10));
        holds(true, WEDS + "not ".repeat(10) + "1<2");
        holds(false, WEDS + "not ".repeat(9) + "1<2");
        holds(false, WEDS + "not [".repeat(5) + "1<2" + "]".repeat(5));
        holds(false, WEDS + "[not ".repeat(4) + "not [1<2]" + "]".repeat(4) + " or 1>2");
        // Beside one another there may be more.
        holds(true, WEDS + "[1<2] and not 1>2 and ".repeat(9) + "[1<2]");
        holds(true, WEDS + ("[".repeat(10) + "1<2" + "]".repeat(10) + " and ").repeat(2) + "not ".repeat(10) + "1<2");
        Checks.says("2 too deep (at the sign that opens, or the word not)");
        Checks.ruleFault(WEDS + "[".repeat(11) + "1<2" + "]".repeat(11), 19, 2);
        Checks.ruleFault(WEDS + "[".repeat(10) + "  [1<2", 21, 2);
        Checks.ruleFault(WEDS + "not ".repeat(11) + "1<2", 49, 2);
        Checks.ruleFault(WEDS + "[".repeat(10) + "not 1<2", 19, 2);
        Checks.ruleFault(WEDS + "not ".repeat(10) + "[1<2]", 49, 2);
        Checks.ruleFault(WEDS + "[".repeat(10) + "1<2 and not 1<2", 27, 2);
        Checks.ruleFault(WEDS + "[".repeat(10) + "1<2 or [1<2", 26, 2);
        Checks.ruleFault("wed 1 if 1<2;wed 1 if " + "[".repeat(11), 32, 2);
        // Another CLAUSE begins anew.
        holds(true, "wed 1 if " + "not ".repeat(9) + "1<2;wed 1 if " + "[".repeat(10) + "1<2" + "]".repeat(10));
    }

    private static void sixty() {
        Checks.says("at most 60 VALUES (of SUMS) and FACTS made of a SIGN, together.");
        String facts = "1<2 and ".repeat(18) + "1<2";
        holds(true, "wed 1+1+1 if " + facts);
        holds(true, WEDS + "1+".repeat(56) + "1=57");
        holds(true, WEDS + "not not [" + "1+".repeat(56) + "1=57]");
        holds(true, "wed " + "1*".repeat(59) + "1");
        Checks.says("3 one VALUE or FACT too many (at its first byte; of a FACT at its SIGN)");
        Checks.ruleFault("wed " + "1*".repeat(60) + "1", 124, 3);
        Checks.ruleFault("wed " + "1*".repeat(60) + "  heirs", 126, 3);
        Checks.ruleFault("wed " + "1*".repeat(59) + "1 if 1<2", 127, 3);
        Checks.ruleFault("wed " + "1*".repeat(58) + "1 if 1<2", 126, 3);
        Checks.ruleFault("wed " + "1*".repeat(57) + "1 if 1  <= 2", 129, 3);
        new Checks().rule("wed " + "1*".repeat(56) + "1 if 1<  2");
        Checks.ruleFault("wed 1+1+1 if " + facts + " or 1<2", 13 + facts.length() + 4, 3);
        Checks.ruleFault("wed 1+1 if " + facts + " or 1 < 2", 11 + facts.length() + 6, 3);
        // All CLAUSES of a text together; the next text begins anew.
        Checks.ruleFault("wed " + "1*".repeat(29) + "1;wed " + "1*".repeat(30) + "1", 128, 3);
        new Checks().rule("wed " + "1*".repeat(29) + "1;wed " + "1*".repeat(29) + "1").rule("wed " + "1*".repeat(59) + "1");
    }

    // ---- FAULTS

    private static void endOfText() {
        Checks.says("0 .. the end (behind the last byte)");
        String parish = "parish 2 0;well 0 1 1;farm 0 1 1;kin 0 1;";
        for (int n = 0; n <= parish.length(); n++) {
            Checks c = new Checks().tell(parish).due(n, "end", n);
            boolean whole = n == 10 || n == 21 || n == 32 || n == 40;
            boolean inWord = n > 0 && n < 6 || n > 11 && n < 15 || n > 22 && n < 26 || n > 33 && n < 36;
            int word = n < 6 ? 0 : n < 15 ? 11 : n < 26 ? 22 : 33;
            c.due(whole ? 2 : -2 - (1 + 8 * (inWord ? word : n)), "parish");
        }
        Checks.parishFault(" ".repeat(400), 400, 0);
        Checks.parishFault("parish 2 0" + " ".repeat(389) + ";", 400, 0);
        Checks.ruleFault("wed 1" + " ".repeat(393) + "+ ", 400, 0);
        for (String open : new String[] {"wed", "wed 1+", "wed 1;", "wed 1 if", "wed 1 if 1", "wed 1 if 1<", "wed 1 if 1<=",
            "wed 1 if [", "wed 1 if [1<2", "wed 1 if not", "wed 1 if 1<2 or", "wed 1 if 1<2 and", "wed 1 if 1<2+"}) {
            Checks.ruleFault(open, open.length(), 0);
            Checks.ruleFault(open + "  ", open.length() + 2, 0);
        }
    }

    private static void placesOfFaults() {
        Checks.says("FAULTS, .. 1 + 8 * its place and: 0 a byte or WORD that can't stand there");
        for (int place = 0; place < 400; place += 57) {
            Checks.parishFault(" ".repeat(place) + "x", place, 0);
            Checks.ruleFault(" ".repeat(place) + "wed", place < 398 ? place + 3 : place, 0);
        }
        Checks.parishFault(" ".repeat(399) + "x", 399, 0);
        Checks.ruleFault(" ".repeat(399) + "[", 399, 0);
        Checks.parishFault(" ".repeat(391) + "parish 10", 398, 1);
        Checks.parishFault(" ".repeat(397) + "kin", 397, 4);
        Checks.ruleFault(" ".repeat(390) + "wed 123456", 394, 1);
    }

    private static void firstFault() {
        Checks.says("FAULTS, the first along the text");
        Checks.parishFault("parish 8 10;x", 7, 1);
        Checks.parishFault("parish 2 x;parish 2 0", 9, 0);
        Checks.parishFault("well 9 9 99", 0, 4);
        Checks.parishFault("parish 2 0;kin 3 x", 15, 1);
        Checks.ruleFault("wed 123456;x", 4, 1);
        Checks.ruleFault(WEDS + "[".repeat(12) + "x", 19, 2);
        Checks.ruleFault("wed " + "1+".repeat(60) + "1 if " + "[".repeat(11), 124, 3);
        Checks.ruleFault(WEDS + "[".repeat(11) + "1+".repeat(70), 19, 2);
        Checks.ruleFault("wed 1" + ";wed 1".repeat(12) + "23456", 72, 4);
    }

    private static void leastFault() {
        Checks.says("Of one place the least.");
        String forty = "parish 2 0" + ";kin0 1".repeat(39);
        Checks.parishFault(forty + ";x", forty.length() + 1, 0);
        Checks.parishFault(forty + ";wed", forty.length() + 1, 0);
        Checks.parishFault(forty + ";", forty.length() + 1, 0);
        Checks.parishFault(forty + ";1", forty.length() + 1, 0);
        Checks.parishFault("x 2 0", 0, 0);
        Checks.parishFault("parish 2 0 123456", 11, 0);
        Checks.parishFault("123456", 0, 0);
        String twelve = "wed 1" + ";wed 1".repeat(11);
        Checks.ruleFault(twelve + ";kin 0 1", twelve.length() + 1, 0);
        Checks.ruleFault(twelve + ";", twelve.length() + 1, 0);
        String sixty = "wed " + "1+".repeat(59) + "1";
        Checks.ruleFault(sixty + "+123456", sixty.length() + 1, 1);
        Checks.ruleFault(sixty + "+if", sixty.length() + 1, 0);
        Checks.ruleFault(sixty + "+", sixty.length() + 1, 0);
        Checks.ruleFault(sixty + " 123456", sixty.length() + 1, 0);
        Checks.ruleFault("wed " + "1+".repeat(58) + "1 if 1 !", 4 + 116 + 7, 0);
        Checks.ruleFault("wed " + "1+".repeat(58) + "1 if 1 ", 4 + 116 + 7, 0);
    }

    // ---- the RULE IN FORCE

    private static void forces() {
        Checks.says("A RULE is IN FORCE (NONE: none): which was; -2, and nothing happens, if there is none such.");
        new Checks().still(-2, "force", 0).still(-2, "force", -2).still(-1, "force", -1);
        Checks c = Checks.rich().still(-2, "force", 2).still(-2, "force", -2).still(-2, "force", 6)
                .still(-2, "force", Integer.MAX_VALUE).still(-2, "force", Integer.MIN_VALUE).still(0, "force", 0);
        c.due(0, "force", 1).due(1, "force", -1).due(-1, "force", -1).due(-1, "count", 3).due(-1, "force", 0);
        c = new Checks();
        for (int i = 0; i < 6; i++) {
            c.still(-2, "force", i).rule("wed 1").due(i - 1, "force", i);
        }
        c.still(-2, "force", 6);
    }
}

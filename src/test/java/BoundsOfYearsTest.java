/** The boundaries of YEARS and ACTS: the sentences of 'Terms', II, and of promises 7 to 15. */
public final class BoundsOfYearsTest {
    private static final int[] FAR = {Integer.MIN_VALUE, -2, -1, 3, 6, 7, 8, Integer.MAX_VALUE};

    public static void main(String[] args) {
        wellsAndFarms();
        lies();
        canWed();
        tastes();
        fewerHeirs();
        greatestAboveZero();
        severalGreatest();
        withoutTestThatHolds();
        withoutRule();
        drawing();
        raining();
        digging();
        fifthYears();
        answersOfYears();
        lastYearByHand();
        yearsBeyond();
        wedByHand();
        pourByHand();
        digByHand();
        birthByHand();
        lastTwenty();
        lastFirst();
        undoneAndOnAgain();
        manyCalls();
        Checks.close("BoundsOfYearsTest");
    }

    // ---- what is

    private static void wellsAndFarms() {
        Checks.says("Of a WELL what 0: DEPTH .. 3: the FARM that has it. NONE without these.");
        Checks c = Checks.rich();
        for (int far : FAR) {
            for (int what = 0; what < 4; what++) {
                c.due(-1, "well", far, what).due(-1, "farm", far, what);
            }
        }
        for (int what : new int[] {Integer.MIN_VALUE, -1, 4, Integer.MAX_VALUE}) {
            c.still(-1, "well", 0, what).still(-1, "farm", 0, what).still(-1, "well", 2, what).still(-1, "farm", 2, what);
        }
        new Checks().still(-1, "well", 0, 0).still(-1, "farm", 0, 0);
        for (int farms = 2; farms <= 7; farms++) {
            c = new Checks().parish("parish " + farms + " 0").due(farms - 1, "well", farms - 1, 3)
                    .due(farms - 1, "farm", farms - 1, 2).due(-1, "well", farms, 3).due(-1, "farm", farms, 2);
        }
        Checks.says("Of a FARM what .. 3: KIN, as bits.");
        c = new Checks().parish("parish 7 0;kin 0 6;kin 6 1;kin 6 2;kin 6 3;kin 6 4;kin 6 5");
        c.due(63, "farm", 6, 3).due(64, "farm", 0, 3);
    }

    private static void lies() {
        Checks.says("a LIE is told as a number of digits, of the WELL each FARM has its number and 1, FARM 0 first");
        int[] home = {12, 123, 1234, 12345, 123456, 1234567};
        for (int farms = 2; farms <= 7; farms++) {
            new Checks().parish("parish " + farms + " 0").due(home[farms - 2], "lie");
        }
        new Checks().parish("parish 7 0;kin 0 6").due(5, "wed", 0, 6).due(7234561, "lie").due(62, "count", 5);
        Checks.says("The LIE; NONE without a PARISH.");
        new Checks().still(-1, "lie");
    }

    // ---- a WEDDING

    private static void canWed() {
        Checks.says("Two FARMS CAN WED, if they are KIN and both have HEIRS.");
        for (int one = 0; one <= 1; one++) {
            for (int other = 0; other <= 1; other++) {
                String heirs = ";farm 0 1 " + one + ";farm 1 1 " + other;
                int can = one * other;
                Checks c = new Checks().parish("parish 2 0;kin 0 1" + heirs).due(can, "count", 8);
                c.due(can == 1 ? 1 : -2, "year");
                c = new Checks().parish("parish 2 0" + heirs).due(0, "count", 8).due(-2, "year");
            }
        }
        new Checks().parish("parish 7 0;kin 5 6;kin 0 1;farm 0 1 0").due(1, "count", 8).due(46, "year");
    }

    /** The TASTES of both behind a WEDDING. */
    private static void taste(int hers, int his, int hersThen, int hisThen) {
        String parish = "parish 2 0;kin 0 1;well 0 9 " + hers + ";well 1 9 " + his;
        new Checks().parish(parish).due(0, "wed", 0, 1).due(hersThen, "well", 0, 1).due(hisThen, "well", 1, 1);
        new Checks().parish(parish).due(1, "year").due(hersThen, "well", 0, 1).due(hisThen, "well", 1, 1);
    }

    private static void tastes() {
        Checks.says("the TASTE of each becomes its own and a third, towards 0, of the other one's less its own");
        taste(5, 5, 5, 5);
        taste(5, 6, 5, 6);
        taste(5, 7, 5, 7);
        taste(5, 8, 6, 7);
        taste(5, 9, 6, 8);
        taste(5, 10, 6, 9);
        taste(5, 11, 7, 9);
        taste(7, 5, 7, 5);
        taste(8, 5, 7, 6);
        taste(10, 5, 9, 6);
        Checks.says("TASTE 0 to 60 .. (by how both were)");
        taste(0, 60, 20, 40);
        taste(60, 0, 40, 20);
        taste(0, 59, 19, 40);
        taste(60, 60, 60, 60);
    }

    private static void fewerHeirs() {
        Checks.says("both FARMS have 1 HEIR less");
        Checks c = new Checks().parish("parish 3 0;kin 0 1;farm 0 1 1;farm 1 1 9").due(1, "wed", 0, 1);
        c.due(0, "farm", 0, 1).due(8, "farm", 1, 1).due(2, "farm", 2, 1).due(0, "count", 8).still(-1, "wed", 0, 1);
    }

    // ---- a YEAR

    private static void greatestAboveZero() {
        Checks.says("those do for which the SUM .. is greatest, if it is above 0");
        String three = "parish 3 0;kin 0 1;kin 0 2;kin 1 2";
        int[] wed = {-2, -2, 1};
        for (int sum = -1; sum <= 1; sum++) {
            new Checks().parish(three).rule("wed 1-1+" + (sum + 1) + "-1").due(-1, "force", 0).due(wed[sum + 1], "year");
        }
        // 0 and less than 0 among those above.
        new Checks().parish(three).rule("wed groom+bride-2").due(-1, "force", 0).due(10, "year");
        new Checks().parish(three).rule("wed 2-groom-bride").due(-1, "force", 0).due(1, "year");
        new Checks().parish(three).rule("wed 1-groom-bride").due(-1, "force", 0).due(-2, "year");
        // Those that can't are not asked.
        new Checks().parish("parish 3 0;kin 0 1;kin 1 2;farm 2 1 0").rule("wed groom+bride*9").due(-1, "force", 0)
                .due(1, "year").due(1, "year").due(-2, "year");
    }

    private static void severalGreatest() {
        Checks.says("of several those of the least lesser number, then of the least greater one");
        String all = "parish 4 0;kin 2 3;kin 1 3;kin 1 2;kin 0 3;kin 0 2;kin 0 1";
        new Checks().parish(all).rule("wed 5").due(-1, "force", 0).due(1, "year");
        new Checks().parish(all).rule("wed 5 if groom=3;wed 4").due(-1, "force", 0).due(3, "year");
        new Checks().parish(all).rule("wed 5 if groom>1;wed 4").due(-1, "force", 0).due(2, "year");
        new Checks().parish(all).rule("wed bride*groom%5").due(-1, "force", 0).due(11, "year");
        new Checks().parish(all).rule("wed 5 if bride>0;wed 4").due(-1, "force", 0).due(10, "year");
    }

    private static void withoutTestThatHolds() {
        Checks.says("the RULE IN FORCE's first CLAUSE without a TEST, or whose TEST holds (0 without)");
        String two = "parish 2 0;kin 0 1";
        new Checks().parish(two).rule("wed 9 if 1>2;wed 9 if year>0").due(-1, "force", 0).due(-2, "year").due(1, "year");
        new Checks().parish(two).rule("wed 9 if 1>2;wed 0;wed 9").due(-1, "force", 0).due(-2, "year");
        new Checks().parish(two).rule("wed 9 if 1<2;wed 0").due(-1, "force", 0).due(1, "year");
        new Checks().parish(two).rule("wed 0 if 1<2;wed 9").due(-1, "force", 0).due(-2, "year");
    }

    private static void withoutRule() {
        Checks.says("without a RULE the first so");
        new Checks().parish("parish 4 0;kin 2 3;kin 1 3").due(11, "year");
        new Checks().parish("parish 4 0;kin 0 3;kin 0 2").due(2, "year");
        new Checks().parish("parish 4 0;kin 0 3;kin 1 2;farm 0 1 0").due(10, "year");
        Checks.says("(none, if none is such)");
        new Checks().parish("parish 4 0").due(-2, "year").due(1, "count", 4).due(1234, "lie");
    }

    /** WATER and DEPTH of WELL 0 behind a YEAR in which nobody WEDS. */
    private static void oneYear(int rain, int depth, int draws, int waterThen, int depthThen) {
        new Checks().parish("parish 2 " + rain + ";well 0 " + depth + " 0;farm 0 " + draws + " 0").due(-2, "year")
                .due(waterThen, "well", 0, 2).due(depthThen, "well", 0, 0);
    }

    private static void drawing() {
        Checks.says("Each FARM draws as much WATER as it DRAWS from the WELL it has, as far as there is.");
        oneYear(0, 30, 0, 30, 30);
        oneYear(0, 30, 5, 25, 30);
        oneYear(0, 6, 5, 1, 6);
        oneYear(0, 5, 5, 0, 6);
        oneYear(0, 4, 5, 0, 5);
        oneYear(0, 1, 5, 0, 2);
        // From the WELL it has, behind the WEDDING of this YEAR.
        new Checks().parish("parish 2 0;kin 0 1;farm 0 5 1;farm 1 0 1").due(1, "year").due(4, "well", 1, 2)
                .due(9, "well", 0, 2);
        // How much it has drawn is seen by RESTS: of 1 there is no more than 1 to be drawn.
        new Checks().parish("parish 2 9;well 0 1 0;well 1 1 0").due(25, "rests", 0, 1, 1, 0).due(1, "rests", 0, 1, 1, 1)
                .due(1, "rests", 0, 1, 1, 2);
    }

    private static void raining() {
        Checks.says("Each WELL has RAIN more WATER, as much as DEPTH at most");
        oneYear(9, 30, 0, 30, 30);
        oneYear(2, 9, 3, 8, 9);
        oneYear(3, 9, 3, 9, 9);
        oneYear(4, 9, 3, 9, 9);
        // It rains behind the drawing.
        oneYear(9, 3, 5, 3, 3);
        oneYear(1, 1, 5, 1, 1);
        oneYear(0, 9, 3, 6, 9);
        oneYear(9, 9, 5, 9, 9);
    }

    private static void digging() {
        Checks.says("one that has none then is DUG: DEPTH 1 more (40 at most)");
        oneYear(0, 5, 4, 1, 5);
        oneYear(0, 5, 5, 0, 6);
        oneYear(1, 5, 5, 1, 5);
        Checks c = new Checks().parish("parish 2 0;well 0 30 0;farm 0 5 0;farm 1 0 0").due(38, "dig", 0, 8);
        for (int i = 0; i < 5; i++) {
            c.due(-2, "year").due(38, "well", 0, 0);
        }
        for (int depth : new int[] {39, 40, 40, 40}) {
            c.due(-2, "year").due(depth, "well", 0, 0).due(0, "well", 0, 2);
        }
        c.due(9, "well", 1, 0).due(9, "well", 1, 2);
        // Though its DEPTH stays, it is DUG in this YEAR.
        c.due(9, "dry", 0);
    }

    private static void fifthYears() {
        Checks.says("In each fifth YEAR (whose YEAR and 1 is a fivefold) each FARM has 1 HEIR more (9 at most).");
        Checks c = new Checks().parish("parish 3 0;farm 0 1 0;farm 1 1 7;farm 2 1 9");
        int[] heirs = {0, 0, 0, 0, 1, 1, 1, 1, 1, 2, 2, 2, 2, 2, 3, 3};
        int[] most = {7, 7, 7, 7, 8, 8, 8, 8, 8, 9, 9, 9, 9, 9, 9, 9};
        for (int year = 0; year < heirs.length; year++) {
            c.due(-2, "year").due(heirs[year], "farm", 0, 1).due(most[year], "farm", 1, 1).due(9, "farm", 2, 1)
                    .due(year + 1, "count", 4);
        }
        // Behind the WEDDING: one that had 9 and WED has 9 again.
        c = new Checks().parish("parish 2 0;kin 0 1;farm 0 1 9;farm 1 1 1").rule("wed 1 if year=4").due(-1, "force", 0);
        c.due(-2, "year").due(-2, "year").due(-2, "year").due(-2, "year").due(1, "year").due(9, "farm", 0, 1)
                .due(1, "farm", 1, 1);
    }

    private static void answersOfYears() {
        Checks.says("A YEAR: 8 * the lesser and the greater FARM that WED in it (-2: none)");
        for (int one = 0; one < 7; one++) {
            for (int other = one + 1; other < 7; other++) {
                new Checks().parish("parish 7 0;kin " + other + " " + one).due(8 * one + other, "year")
                        .due(one, "farm", other, 2).due(other, "farm", one, 2).due(1, "farm", one, 1).due(1, "farm", other, 1);
            }
        }
        Checks.says("NONE, and nothing happens, without a PARISH");
        new Checks().still(-1, "year").rule("wed 1").due(-1, "force", 0).still(-1, "year");
    }

    /** The document promises 512 calls; the class keeps to this one beyond them, too. */
    private static Checks inYear(int year, String parish) {
        Checks c = new Checks().parish(parish).rule("wed 1 if year=1000").due(-1, "force", 0);
        for (int i = 0; i < year; i++) {
            c.call("year");
        }
        return c.due(year, "count", 4);
    }

    private static void lastYearByHand() {
        Checks.says("YEAR is 1 more (999 at most by hand); NONE, and nothing happens, .. in YEAR 999.");
        Checks c = inYear(998, "parish 2 0;kin 0 1").due(-2, "year").due(999, "count", 4).due(20, "count", 10);
        c.still(-1, "year").due(999, "count", 4).due(20, "count", 10);
        // Other ACTS go on; an UNDONE YEAR can be again.
        c.due(0, "wed", 0, 1).due(999, "count", 4).due(19, "undo").due(18, "undo").due(998, "count", 4).due(-2, "year")
                .still(-1, "year");
    }

    private static void yearsBeyond() {
        Checks.says("YEARS that are asked go on beyond");
        Checks c = inYear(999, "parish 2 0;kin 0 1;farm 0 1 0;farm 1 1 1").due(999, "dry", 0).due(9, "farm", 0, 1);
        c.due(12, "ahead", 0, 1, 0).due(21, "ahead", 0, 2, 0).due(18, "ahead", 0, 1, 3).due(16, "ahead", 0, 2, 3);
        c.due(0, "wed", 0, 1).due(1000, "home").due(-1, "heir", 2, 0).due(2, "heir", 2, 1).due(0, "heir", 1, 1);
        c.due(0, "droughts", 1, 1, 0, 0).due(2, "droughts", 1, 2, 0, 0);
        // HEIRS are 8 each and, behind YEAR 999, 9 again.
        c.due(16, "count", 7).due(18, "ahead", 0, 1, 3);
    }

    // ---- ACTS

    private static void wedByHand() {
        Checks.says("WED (two that CAN; YEAR stays)");
        String four = "parish 4 0;kin 0 1;kin 2 1;kin 2 3;farm 3 1 0";
        new Checks().parish(four).due(2, "wed", 0, 1).due(0, "count", 4).due(1, "count", 10).due(1, "wed", 2, 1)
                .due(2314, "lie");
        Checks.says("wed(): (either one first): how many WELLS are at home then");
        new Checks().parish(four).due(2, "wed", 1, 0).due(2134, "lie").due(4, "wed", 1, 0).due(1234, "lie");
        Checks.says("wed(): NONE, and nothing happens, without these.");
        Checks c = new Checks().parish(four).due(9, "pour", 0, 1);
        c.still(-1, "wed", 0, 2).still(-1, "wed", 2, 3).still(-1, "wed", 3, 2).still(-1, "wed", 1, 1);
        for (int far : new int[] {Integer.MIN_VALUE, -1, 4, 7, 32, Integer.MAX_VALUE}) {
            c.still(-1, "wed", far, 0).still(-1, "wed", 0, far).still(-1, "wed", far, far);
        }
        // Bit 32 of KIN is bit 0 for the machine: FARM 33 is no FARM all the same.
        c.still(-1, "wed", 0, 33).still(-1, "wed", 33, 0);
        new Checks().still(-1, "wed", 0, 1).still(-1, "wed", 0, 0);
    }

    private static void pourByHand() {
        Checks.says("POUR (a WELL has 1 to 30 more WATER, as much as DEPTH at most): WATER then");
        String parish = "parish 2 0;well 0 30 0;well 1 4 0;farm 0 5 0;farm 1 1 0";
        Checks c = new Checks().parish(parish);
        for (int i = 0; i < 7; i++) {
            c.due(-2, "year");
        }
        c.due(0, "well", 0, 2).due(32, "well", 0, 0).due(0, "well", 1, 2).due(8, "well", 1, 0);
        c.due(1, "pour", 0, 1).due(31, "pour", 0, 30).due(32, "pour", 0, 1).due(32, "pour", 0, 1).due(32, "pour", 0, 30);
        c.due(7, "pour", 1, 7).due(8, "pour", 1, 1).due(8, "pour", 1, 1).due(15, "count", 10);
        Checks.says("pour(): NONE, and nothing happens, without these.");
        c = Checks.rich();
        for (int far : new int[] {Integer.MIN_VALUE, -30, -1, 0, 31, Integer.MAX_VALUE}) {
            c.still(-1, "pour", 0, far).still(-1, "pour", 2, far);
        }
        for (int far : FAR) {
            c.still(-1, "pour", far, 1);
        }
        new Checks().still(-1, "pour", 0, 1);
    }

    private static void digByHand() {
        Checks.says("DIG (a WELL has 1 to 9 more DEPTH, 40 at most): DEPTH then");
        String parish = "parish 2 0;well 0 30 0;well 1 1 0";
        Checks c = new Checks().parish(parish).due(31, "dig", 0, 1).due(40, "dig", 0, 9).due(40, "dig", 0, 9)
                .due(40, "dig", 0, 1).due(30, "well", 0, 2);
        c.due(10, "dig", 1, 9).due(19, "dig", 1, 9).due(28, "dig", 1, 9).due(32, "dig", 1, 4).due(40, "dig", 1, 9)
                .due(1, "well", 1, 2).due(31, "pour", 1, 30).due(40, "pour", 1, 30).due(11, "count", 10);
        new Checks().parish(parish).due(39, "dig", 0, 9).due(40, "dig", 0, 1);
        Checks.says("dig(): NONE, and nothing happens, without these.");
        c = Checks.rich();
        for (int far : new int[] {Integer.MIN_VALUE, -9, -1, 0, 10, Integer.MAX_VALUE}) {
            c.still(-1, "dig", 0, far).still(-1, "dig", 2, far);
        }
        for (int far : FAR) {
            c.still(-1, "dig", far, 1);
        }
        new Checks().still(-1, "dig", 0, 1);
    }

    private static void birthByHand() {
        Checks.says("BIRTH (a FARM has 1 HEIR more, 9 at most, if it has fewer): HEIRS then");
        Checks c = new Checks().parish("parish 3 0;kin 0 1;farm 0 1 8;farm 1 1 0;farm 2 1 9");
        c.due(9, "birth", 0).due(1, "birth", 1).due(2, "count", 10);
        Checks.says("birth(): NONE, and nothing happens, without these.");
        c.still(-1, "birth", 0).still(-1, "birth", 2).due(2, "count", 10);
        // One HEIR less, and there can be one more.
        c.due(1, "wed", 0, 1).due(9, "birth", 0).still(-1, "birth", 0);
        c = Checks.rich();
        for (int far : FAR) {
            c.still(-1, "birth", far);
        }
        new Checks().still(-1, "birth", 0);
    }

    private static void manyCalls() {
        Checks.says("An object is used for at most 512 calls after it has been made");
        // "parish 2 9" comes by three calls; the 512th one, behind 508 YEARS, answers as the first ones do.
        WellSwap x = new WellSwap();
        x.feed(0x70617269, 0x73682032, 0x20392020, 0x20202020, 0x20202020);
        x.end(10);
        x.parish();
        for (int year = 0; year < 508; year++) {
            Checks.check("year " + year, x.year(), -2);
        }
        Checks.check("the 512th call", x.count(4), 508);
    }

    // ---- what is UNDONE

    private static void lastTwenty() {
        Checks.says("The last 20 can be UNDONE");
        for (int many = 19; many <= 23; many++) {
            Checks c = new Checks().parish("parish 2 0;well 0 1 0");
            for (int i = 1; i <= many; i++) {
                c.due(1 + i, "dig", 0, 1).due(Math.min(i, 20), "count", 10);
            }
            Checks.says("The last ACT is UNDONE: how many more can be; NONE, and nothing happens: none can.");
            for (int left = Math.min(many, 20) - 1; left >= 0; left--) {
                c.due(left, "undo").due(left, "count", 10);
            }
            c.due(1 + Math.max(0, many - 20), "well", 0, 0).still(-1, "undo").due(0, "count", 10);
        }
        new Checks().still(-1, "undo");
    }

    private static void lastFirst() {
        Checks.says("ACTS: a YEAR; WED; POUR; DIG; BIRTH. .. the last first.");
        String parish = "parish 2 0;kin 0 1;well 0 5 30;well 1 9 0;farm 0 2 2;farm 1 1 3";
        Checks c = new Checks().parish(parish).due(1, "year").due(2, "wed", 0, 1).due(5, "pour", 0, 30).due(11, "dig", 1, 2)
                .due(1, "birth", 0);
        c.due(4, "undo").due(0, "farm", 0, 1).due(3, "undo").due(9, "well", 1, 0).due(2, "undo").due(4, "well", 0, 2);
        c.due(1, "undo").due(21, "lie").due(20, "well", 0, 1).due(10, "well", 1, 1).due(1, "farm", 0, 1).due(2, "farm", 1, 1);
        c.due(0, "undo").due(12, "lie").due(30, "well", 0, 1).due(0, "well", 1, 1).due(5, "well", 0, 2).due(9, "well", 1, 2)
                .due(2, "farm", 0, 1).due(3, "farm", 1, 1).due(0, "count", 4);
        // What is no ACT is not UNDONE: NOTES, x, the RULE IN FORCE stay.
        c = Checks.rich();
        for (int left = 4; left >= 0; left--) {
            c.due(left, "undo");
        }
        c.due(2, "count", 9).due(7, "count", 11).due(0, "count", 3).due(2, "count", 2).due(18, "count", 12);
    }

    private static void undoneAndOnAgain() {
        Checks.says("The last 20 can be UNDONE: what comes behind one that was UNDONE is the last one then");
        Checks c = new Checks().parish("parish 2 0;well 0 1 0;well 1 1 0");
        for (int i = 0; i < 20; i++) {
            c.due(2 + i, "dig", 0, 1);
        }
        for (int i = 0; i < 5; i++) {
            c.due(19 - i, "undo");
        }
        for (int i = 0; i < 7; i++) {
            c.due(2 + i, "dig", 1, 1);
        }
        c.due(20, "count", 10);
        for (int i = 0; i < 7; i++) {
            c.due(19 - i, "undo").due(7 - i, "well", 1, 0).due(16, "well", 0, 0);
        }
        for (int i = 0; i < 13; i++) {
            c.due(12 - i, "undo").due(15 - i, "well", 0, 0).due(1, "well", 1, 0);
        }
        c.still(-1, "undo").due(3, "well", 0, 0);
    }
}

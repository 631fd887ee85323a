/** The boundaries of what is asked: the sentences of 'Terms', III, and of promises 16 to 37. */
public final class BoundsOfAskedTest {
    private static final String TWO = "parish 2 0;kin 0 1";
    private static final String PATH = "parish 7 0;kin 0 1;kin 1 2;kin 2 3;kin 3 4;kin 4 5;kin 5 6";
    private static final int[] FAR = {Integer.MIN_VALUE, -2, -1, 3, 6, 7, 8, 32, Integer.MAX_VALUE};
    private static final int[] NO_WHAT = {Integer.MIN_VALUE, -1, 2, Integer.MAX_VALUE};

    public static void main(String[] args) {
        nothingChanges();
        noLies();
        fewest();
        steps();
        liesWithin();
        farthest();
        comes();
        rings();
        aheads();
        dries();
        homes();
        heirs();
        depths();
        tastes();
        rests();
        restsOfMostYears();
        pence();
        notes();
        yearsOfNotes();
        ruled();
        looks();
        seeds();
        draws();
        droughts();
        chanceOfDroughts();
        counts();
        images();
        backs();
        Checks.close("BoundsOfAskedTest");
    }

    private static void nothingChanges() {
        Checks.says("by what is asked nothing changes");
        Checks c = Checks.rich();
        c.still(c.call("fewest", 123), "fewest", 123).still(c.call("step", 321, 0, 0), "step", 321, 0, 0);
        c.still(6, "lies", 30).still(3, "farthest", 0).still(c.call("farthest", 1), "farthest", 1);
        c.still(c.call("comes", 0, 2), "comes", 0, 2).still(c.call("rings", 1), "rings", 1);
        c.still(c.call("ahead", 0, 100, 3), "ahead", 0, 100, 3).still(c.call("dry", 1), "dry", 1);
        c.still(c.call("home"), "home").still(c.call("heir", 40, 0), "heir", 40, 0).still(c.call("depths", 0, 1), "depths", 0, 1);
        c.still(c.call("tastes", 0, 0), "tastes", 0, 0).still(c.call("rests", 0, 1, 20, 1), "rests", 0, 1, 20, 1);
        c.still(c.call("pence", 9999, 0), "pence", 9999, 0).still(c.call("ruled", 1), "ruled", 1);
        c.still(c.call("look", 60, 0), "look", 60, 0).still(c.call("lie"), "lie");
        Checks.says("(nothing stays; x as it was)");
        c.still(c.call("droughts", 10, 60, 50, 1), "droughts", 10, 60, 50, 1).due(7, "count", 11);
    }

    // ---- by WEDDINGS alone

    private static void noLies() {
        Checks.says("NONE: that is no LIE of all WELLS, or there is no PARISH.");
        int[] three = {0, 1, 12, 122, 112, 124, 120, 23, 103, 230, 1230, 1023, 1123, 1231, 3210, 3214, -123, -321, 999,
            Integer.MIN_VALUE, Integer.MAX_VALUE};
        Checks c = new Checks().parish("parish 3 0;kin 0 1;kin 1 2");
        for (int lie : three) {
            c.still(-1, "fewest", lie).still(-1, "step", lie, 0, 0);
        }
        c = new Checks().parish(TWO).due(-1, "fewest", 1).due(-1, "fewest", 2).due(-1, "fewest", 11).due(-1, "fewest", 22)
                .due(-1, "fewest", 13).due(-1, "fewest", 10).due(-1, "fewest", 20).due(-1, "fewest", 121)
                .due(-1, "fewest", 1012).due(1, "fewest", 21);
        c = new Checks().parish(PATH);
        int[] seven = {1234568, 1234566, 234567, 12345678, 12345670, 1234560, 1111111, 123456, 11234567, -1234567};
        for (int lie : seven) {
            c.due(-1, "fewest", lie).due(-1, "step", lie, 0, 1);
        }
        // 4294967296 more of a LIE can't be told; these are as near to it as an int goes.
        c.due(-1, "fewest", 1234567 + Integer.MIN_VALUE).due(-1, "fewest", Integer.MAX_VALUE);
        new Checks().still(-1, "fewest", 12).still(-1, "fewest", 0).still(-1, "fewest", 1);
    }

    private static void fewest() {
        Checks.says("FEWEST to a LIE: how many WEDDINGS");
        new Checks().parish(PATH).due(0, "fewest", 1234567).due(1, "fewest", 2134567).due(21, "fewest", 7654321);
        Checks.says("BY WEDDINGS ALONE (of any that are KIN, whatever the HEIRS)");
        new Checks().parish(TWO + ";farm 0 1 0;farm 1 1 0").due(1, "fewest", 21).due(2, "lies", 1).due(1, "comes", 0, 1);
        Checks.says("-2: it can't be reached");
        Checks c = new Checks().parish("parish 3 0;kin 0 2").still(-2, "fewest", 213).due(-2, "fewest", 132)
                .due(1, "fewest", 321).due(-2, "fewest", 231);
        c.due(1, "wed", 0, 2).due(1, "fewest", 123).due(0, "fewest", 321).due(-2, "fewest", 213);
    }

    private static void steps() {
        Checks.says("STEP i (from 0) of it .. -2: there is none such (so many there are not, it can't be reached).");
        Checks c = new Checks().parish(PATH);
        c.due(0, "step", 7654321, 0, 0).due(1, "step", 7654321, 0, 1).due(0, "step", 7654321, 20, 0)
                .due(1, "step", 7654321, 20, 1);
        c.still(-2, "step", 7654321, 21, 0).still(-2, "step", 7654321, 21, 1).due(-2, "step", 1234567, 0, 0)
                .due(-2, "step", 7654321, Integer.MAX_VALUE, 1);
        c.due(5, "step", 1234576, 0, 0).due(6, "step", 1234576, 0, 1).due(-2, "step", 1234576, 1, 0);
        new Checks().parish("parish 3 0;kin 0 2").still(-2, "step", 213, 0, 0).due(-2, "step", 213, 0, 1);
        Checks.says("NONE without these (a LIE; i 0 or more).");
        c = Checks.rich().still(-1, "step", 123, -1, 0).still(-1, "step", 123, Integer.MIN_VALUE, 1);
        for (int what : NO_WHAT) {
            c.still(-1, "step", 321, 0, what);
        }
        new Checks().still(-1, "step", 12, 0, 0);
        Checks.says("of all rows of so many WEDDINGS that lead there the first (by the lesser FARM, then by the greater one)");
        c = new Checks().parish("parish 4 0;kin 2 3;kin 0 1");
        int[][] row = {{0, 1}, {2, 3}};
        for (int i = 0; i < 2; i++) {
            c.due(row[i][0], "step", 2143, i, 0).due(row[i][1], "step", 2143, i, 1);
        }
        // Three rows lead there: 0 1, 0 2; 0 2, 1 2; 1 2, 0 1.
        c = new Checks().parish("parish 3 0;kin 1 2;kin 0 2;kin 0 1").due(0, "step", 312, 0, 0).due(1, "step", 312, 0, 1)
                .due(0, "step", 312, 1, 0).due(2, "step", 312, 1, 1);
    }

    private static void liesWithin() {
        Checks.says("LIES within n WEDDINGS (0 to 30): how many can be reached by n WEDDINGS at most, this one, too.");
        Checks c = new Checks().parish(PATH).due(1, "lies", 0).due(7, "lies", 1).due(5039, "lies", 20).due(5040, "lies", 21)
                .due(5040, "lies", 30);
        new Checks().parish("parish 7 0").due(1, "lies", 0).due(1, "lies", 30);
        Checks.says("LIES; NONE without these, or a PARISH.");
        c = Checks.rich();
        for (int n : new int[] {Integer.MIN_VALUE, -1, 31, Integer.MAX_VALUE}) {
            c.still(-1, "lies", n);
        }
        new Checks().still(-1, "lies", 0).still(-1, "lies", 30);
    }

    private static void farthest() {
        Checks.says("FARTHEST: of all LIES that can be reached that to which FEWEST is most, of several the least number");
        new Checks().parish("parish 7 0").due(0, "farthest", 0).due(1234567, "farthest", 1);
        new Checks().parish(TWO).due(1, "farthest", 0).due(21, "farthest", 1).due(0, "wed", 0, 1).due(1, "farthest", 0)
                .due(12, "farthest", 1);
        new Checks().parish(PATH).due(21, "farthest", 0).due(7654321, "farthest", 1);
        // All KIN: a ring of all is farthest, and the least number has WELL 1 at FARM 0.
        new Checks().parish("parish 4 0;kin 0 1;kin 0 2;kin 0 3;kin 1 2;kin 1 3;kin 2 3").due(3, "farthest", 0)
                .due(2341, "farthest", 1);
        // A star of 7, from home and from another LIE; asked once more it is the same.
        Checks c = new Checks().parish("parish 7 0;kin 0 1;kin 0 2;kin 0 3;kin 0 4;kin 0 5;kin 0 6").due(9, "farthest", 0)
                .due(1325476, "farthest", 1).due(5, "wed", 0, 1).due(9, "farthest", 0).due(2315476, "farthest", 1)
                .due(2315476, "farthest", 1);
        Checks.says("NONE for others, or without a PARISH.");
        c = Checks.rich();
        for (int what : NO_WHAT) {
            c.still(-1, "farthest", what).still(-1, "rings", what);
        }
        new Checks().still(-1, "farthest", 0).still(-1, "farthest", 1).still(-1, "rings", 0).still(-1, "rings", 1);
    }

    private static void comes() {
        Checks.says("COMES of a WELL to a FARM: the fewest WEDDINGS by which it is there; -2: by none");
        Checks c = new Checks().parish(PATH);
        for (int farm = 0; farm < 7; farm++) {
            c.due(farm, "comes", 0, farm).due(6 - farm, "comes", farm, 6);
        }
        c.due(5, "wed", 0, 1).due(0, "comes", 0, 1).due(1, "comes", 0, 0).due(5, "comes", 0, 6).due(6, "comes", 1, 6);
        new Checks().parish("parish 7 0").due(0, "comes", 6, 6).due(-2, "comes", 6, 0).due(-2, "comes", 0, 6);
        Checks.says("COMES; .. NONE without these.");
        c = Checks.rich();
        for (int far : FAR) {
            c.still(-1, "comes", far, 0).still(-1, "comes", 0, far);
        }
        new Checks().still(-1, "comes", 0, 0);
    }

    private static void rings() {
        Checks.says("RINGS: WELLS that are not at home, of which each is at home where the next one is, in rings");
        Checks c = new Checks().parish(PATH).due(0, "rings", 0).due(0, "rings", 1);
        for (int i = 0; i < 6; i++) {
            c.due(5 - i < 0 ? 0 : 5 - i, "wed", i, i + 1).due(1, "rings", 0).due(i + 1, "rings", 1);
        }
        c = new Checks().parish(PATH).due(5, "wed", 0, 1).due(3, "wed", 2, 3).due(1, "wed", 4, 5).due(3, "rings", 0)
                .due(3, "rings", 1);
        new Checks().parish(TWO).due(0, "wed", 0, 1).due(1, "rings", 0).due(1, "rings", 1).due(2, "wed", 0, 1)
                .due(0, "rings", 0);
        // Rings that lie across one another: 0 3, 1 4, 2 5; and 0 2 4 6, 1 3 5.
        new Checks().parish("parish 7 0;kin 0 3;kin 1 4;kin 2 5").due(5, "wed", 0, 3).due(1, "rings", 0).due(3, "wed", 1, 4)
                .due(2, "rings", 0).due(1, "wed", 2, 5).due(3, "rings", 0).due(3, "rings", 1);
        new Checks().parish("parish 7 0;kin 0 2;kin 2 4;kin 4 6;kin 1 3;kin 3 5").due(5, "wed", 0, 2).due(4, "wed", 2, 4)
                .due(3, "wed", 4, 6).due(1, "rings", 0).due(3, "rings", 1).due(1, "wed", 1, 3).due(0, "wed", 3, 5)
                .due(2, "rings", 0).due(5, "rings", 1);
    }

    // ---- how it goes on

    private static void aheads() {
        Checks.says("AHEAD n YEARS (0 to 100)");
        Checks c = new Checks().parish(TWO + ";well 0 30 9;farm 0 1 1;farm 1 0 1").rule("wed 1 if year=99")
                .rule("wed 1 if year=100").due(-1, "force", 0);
        c.due(12, "ahead", 0, 0, 0).due(30, "ahead", 0, 0, 1).due(9, "ahead", 0, 0, 2).due(2, "ahead", 0, 0, 3);
        c.due(12, "ahead", 0, 99, 0).due(21, "ahead", 0, 100, 0).due(9, "ahead", 0, 99, 2).due(6, "ahead", 0, 100, 2);
        c.due(18, "ahead", 0, 99, 3).due(18, "ahead", 0, 100, 3).due(1, "ahead", 0, 29, 1).due(0, "ahead", 0, 30, 1);
        c.due(0, "force", 1).due(12, "ahead", 0, 100, 0);
        Checks.says("AHEAD what 0: .. 3: HEIRS (well is asked for the second and the third one alone). NONE without these");
        c = Checks.rich();
        for (int n : new int[] {Integer.MIN_VALUE, -1, 101, Integer.MAX_VALUE}) {
            c.still(-1, "ahead", 0, n, 0).still(-1, "ahead", 0, n, 1).still(-1, "ahead", 0, n, 3);
        }
        for (int far : FAR) {
            c.still(c.call("lie"), "ahead", far, 0, 0).still(c.call("count", 7), "ahead", far, 0, 3);
            c.still(-1, "ahead", far, 0, 1).still(-1, "ahead", far, 0, 2);
        }
        for (int what : new int[] {Integer.MIN_VALUE, -1, 4, Integer.MAX_VALUE}) {
            c.still(-1, "ahead", 0, 0, what);
        }
        for (int what = 0; what < 4; what++) {
            new Checks().still(-1, "ahead", 0, 0, what);
        }
    }

    /** Nobody draws from WELL 0 until the YEAR in which both WED; FARM 1 draws all of it then. */
    private static Checks dryIn(int year) {
        return new Checks().parish(TWO + ";well 0 5 0;farm 0 0 9;farm 1 5 9").rule("wed 1 if year=" + year)
                .due(-1, "force", 0);
    }

    private static void dries() {
        Checks.says("DRY of a WELL: the first YEAR, this one the first, of 200, in which it is DUG; -2: in none of these");
        dryIn(0).due(0, "dry", 0);
        dryIn(1).due(1, "dry", 0).due(-2, "year").due(1, "dry", 0).due(1, "year").due(2, "dry", 0);
        dryIn(199).due(199, "dry", 0);
        dryIn(200).still(-2, "dry", 0).due(-2, "year").due(200, "dry", 0);
        // WATER has gone in YEAR 0, but not by this one.
        new Checks().parish("parish 2 1;well 0 1 0;farm 0 5 0").due(-2, "dry", 0);
        // What was DUG when it was asked before is no matter.
        dryIn(0).due(0, "dry", 0).parish("parish 2 9;farm 0 1 0").due(-2, "dry", 0).due(-2, "dry", 1);
        Checks.says("DRY; .. NONE without that WELL.");
        Checks c = Checks.rich();
        for (int far : FAR) {
            c.still(-1, "dry", far);
        }
        new Checks().still(-1, "dry", 0);
    }

    private static void homes() {
        Checks.says("HOME: the first YEAR, this one the first, of 200, behind which all WELLS are at home");
        for (int year : new int[] {0, 1, 199, 200}) {
            Checks c = new Checks().parish(TWO).rule("wed 1 if year=" + year).due(-1, "force", 0).due(0, "wed", 0, 1);
            if (year == 200) {
                Checks.says("HOME; -2: behind none of these");
                c.still(-2, "home").due(-2, "year").due(200, "home");
            } else {
                c.due(year, "home");
            }
        }
        // At home now, but not behind this YEAR.
        new Checks().parish(TWO + ";farm 0 1 9;farm 1 1 9").due(1, "home").due(1, "year").due(1, "home").due(1, "year")
                .due(3, "home");
        new Checks().parish("parish 2 0").due(0, "home").due(-2, "year").due(1, "home");
        Checks.says("HOME; .. NONE without a PARISH.");
        new Checks().still(-1, "home");
    }

    private static void heirs() {
        Checks.says("HEIR for n YEARS (1 to 40)");
        // Behind a WEDDING by hand both have 0 HEIRS, and 7 in YEAR 39; by one more they WED in it.
        Checks c = new Checks().parish(TWO + ";farm 0 1 1;farm 1 1 1").due(0, "wed", 0, 1).rule("wed heirs-14 if year=39")
                .rule("wed heirs if year=0").due(-1, "force", 0);
        c.due(-1, "heir", 39, 0).due(0, "heir", 39, 1).due(0, "heir", 40, 0).due(2, "heir", 40, 1);
        c.due(0, "force", 1).due(1, "birth", 0).due(1, "heir", 1, 0).due(2, "heir", 1, 1);
        Checks.says("the FARM that had best have 1 HEIR more now (9 at most), or none");
        new Checks().parish(TWO + ";farm 0 1 9;farm 1 1 8").due(0, "wed", 0, 1).due(9, "birth", 0).rule("wed heirs-16")
                .due(-1, "force", 0).due(1, "heir", 1, 0).due(2, "heir", 1, 1).due(8, "birth", 1).due(-1, "heir", 1, 0);
        new Checks().parish(TWO + ";farm 0 1 9;farm 1 1 9").due(0, "wed", 0, 1).due(9, "birth", 0).due(9, "birth", 1)
                .rule("wed heirs-18").due(-1, "force", 0).due(-1, "heir", 1, 0).due(0, "heir", 1, 1);
        Checks.says("of several none, then the least");
        new Checks().parish("parish 7 0").due(-1, "heir", 1, 0).due(7, "heir", 1, 1);
        new Checks().parish("parish 3 0;kin 1 2").due(1, "wed", 1, 2).rule("wed heirs-2").due(-1, "force", 0)
                .due(1, "heir", 1, 0).due(3, "heir", 1, 1);
        Checks.says("HEIR what 0: which (NONE: none), 1: how many. -2 without these, or a PARISH.");
        c = Checks.rich();
        for (int n : new int[] {Integer.MIN_VALUE, -1, 0, 41, Integer.MAX_VALUE}) {
            c.still(-2, "heir", n, 0).still(-2, "heir", n, 1);
        }
        for (int what : NO_WHAT) {
            c.still(-2, "heir", 1, what);
        }
        new Checks().still(-2, "heir", 1, 0).still(-2, "heir", 40, 1);
    }

    // ---- what was noted of DEPTH and TASTE

    /** FARM 0 has WELL 1 of TASTE 10 behind YEAR 0, if both WED by the RULE: by so many of the DEPTHS, from which on. */
    private static void depthBy(String rule, int many, int least) {
        new Checks().parish(TWO + ";well 0 5 30").rule(rule).due(-1, "force", 0).due(1, "note", 0, 0, 10)
                .due(many, "depths", 0, 0).due(least, "depths", 0, 1);
    }

    private static void depths() {
        Checks.says("DEPTHS of a WELL: numbers 1 to 30 as DEPTH .. (WATER as much)");
        depthBy("wed 1", 30, 1);
        depthBy("wed 1 if full<2", 1, 1);
        depthBy("wed full-29", 1, 30);
        depthBy("wed full-28", 2, 29);
        // Behind YEAR 1, when RAIN has filled it up to that DEPTH again.
        new Checks().parish("parish 2 9;kin 0 1;well 0 5 30;farm 0 5 2").rule("wed 1 if year=1 and full=30").due(-1, "force", 0)
                .due(1, "note", 1, 0, 10).due(1, "depths", 0, 0).due(30, "depths", 0, 1);
        Checks.says("all else as the text told it");
        // By so much RAIN, DRAWS, HEIRS, DEPTH of the other one alone they WED in YEAR 1 and no more.
        String rule = "wed 1 if year=1 and full=7 and low=6 and heirs=9 and sweet=30 and sour=0";
        String told = "parish 2 3;kin 0 1;well 0 30 30;well 1 6 0;farm 0 5 4;farm 1 2 5";
        new Checks().parish(told).rule(rule).due(-1, "force", 0).due(9, "dig", 1, 3).due(5, "birth", 0).due(1, "note", 1, 0, 10)
                .due(1, "depths", 0, 0).due(9, "depths", 0, 1).due(0, "depths", 1, 0).due(-2, "depths", 1, 1);
        new Checks().parish(told.replace("well 0 30", "well 0 9")).rule(rule).due(-1, "force", 0).due(1, "note", 1, 0, 10)
                .due(2, "tastes", 0, 0).due(10, "tastes", 0, 1).due(1, "tastes", 1, 0).due(0, "tastes", 1, 1)
                .due(1, "depths", 1, 0).due(6, "depths", 1, 1).due(1, "ruled", 0).due(0, "ruled", 1);
        Checks.says("DEPTHS what 0: how many, 1: the least (-2: there is none).");
        depthBy("wed 1 if full<1", 0, -2);
        depthBy("wed full-30", 0, -2);
        new Checks().parish("parish 2 0").due(30, "depths", 0, 0).due(1, "depths", 0, 1);
        Checks.says("DEPTHS .. NONE without these.");
        refusedOfWells("depths");
    }

    private static void refusedOfWells(String name) {
        Checks c = Checks.rich();
        for (int far : FAR) {
            c.still(-1, name, far, 0).still(-1, name, far, 1);
        }
        for (int what : NO_WHAT) {
            c.still(-1, name, 0, what);
        }
        new Checks().still(-1, name, 0, 0).still(-1, name, 0, 1);
    }

    private static void tastes() {
        Checks.says("TASTES of a WELL: numbers 0 to 60 likewise as TASTE");
        for (int taste : new int[] {0, 1, 59, 60}) {
            new Checks().parish("parish 2 0;well 0 9 7").due(1, "note", 0, 0, taste).due(1, "tastes", 0, 0)
                    .due(taste, "tastes", 0, 1);
        }
        new Checks().parish("parish 2 0").due(61, "tastes", 0, 0).due(0, "tastes", 0, 1);
        Checks.says("TASTES what 0: how many, 1: the least (-2: there is none).");
        new Checks().parish("parish 2 0").due(1, "note", 0, 0, 1).due(2, "note", 0, 0, 2).due(0, "tastes", 0, 0)
                .due(-2, "tastes", 0, 1).due(0, "tastes", 1, 0);
        // Behind a WEDDING FARM 1 has WELL 0: of 60 it is 40 then, of 59 as well; 41 would be of 61.
        new Checks().parish(TWO).due(1, "note", 0, 1, 40).due(2, "tastes", 0, 0).due(59, "tastes", 0, 1);
        new Checks().parish(TWO).due(1, "note", 0, 1, 41).due(0, "tastes", 0, 0).due(-2, "tastes", 0, 1);
        Checks.says("TASTES .. NONE without these.");
        refusedOfWells("tastes");
    }

    // ---- RESTS and PENCE

    private static void rests() {
        Checks.says("RESTS of two FARMS for n YEARS (1 to 20): each DRAWS 0 to 5 from now on");
        new Checks().parish("parish 2 9;well 0 30 0;well 1 30 0").due(1, "rests", 0, 1, 1, 0).due(5, "rests", 0, 1, 1, 1)
                .due(5, "rests", 0, 1, 1, 2).due(1, "rests", 1, 0, 20, 0).due(5, "rests", 1, 0, 20, 1);
        Checks.says("less 3 for each YEAR of these behind which the WELL it has then has none");
        // To draw all of 1 is 1 less 3, of 4 it is 1, of 5 it is 2, of 6 by 6 DRAWS can't be.
        new Checks().parish("parish 2 0;well 0 1 0;well 1 1 0").due(1, "rests", 0, 1, 1, 0).due(0, "rests", 0, 1, 1, 1)
                .due(0, "rests", 0, 1, 1, 2);
        new Checks().parish("parish 2 0;well 0 4 0;well 1 1 0").due(3, "rests", 0, 1, 1, 1).due(1, "rests", 0, 1, 1, 0);
        new Checks().parish("parish 2 0;well 0 5 0;well 1 1 0").due(4, "rests", 0, 1, 1, 1);
        new Checks().parish("parish 2 0;well 0 6 0;well 1 1 0").due(5, "rests", 0, 1, 1, 1);
        // Where both are dry, and stay so, all 36 are alike; the first is the least of all.
        new Checks().parish("parish 2 0;well 0 1 0;well 1 1 0").due(-2, "year").due(36, "rests", 0, 1, 1, 0)
                .due(0, "rests", 0, 1, 1, 1).due(0, "rests", 0, 1, 1, 2).due(36, "rests", 1, 0, 20, 0);
        // What was asked before is no matter.
        new Checks().parish("parish 2 9;well 0 30 0;well 1 30 0").due(5, "rests", 0, 1, 20, 1)
                .parish("parish 2 0;well 0 1 0;well 1 1 0").due(1, "rests", 0, 1, 1, 0).due(0, "rests", 0, 1, 1, 1)
                .due(0, "rests", 0, 1, 1, 2).parish("parish 2 9;well 0 30 0;well 1 30 0").due(1, "rests", 0, 1, 1, 0)
                .due(5, "rests", 0, 1, 1, 1).due(5, "rests", 0, 1, 1, 2);
        // The others draw as they do: if FARM 2 has a dry WELL, both WED in YEAR 1 unless WELL 1 is dry, too.
        String third = "parish 3 0;kin 0 1;well 0 30 0;well 1 1 0;well 2 5 0;farm 2 ";
        new Checks().parish(third + "5 0").rule("wed 1 if dry=1").due(-1, "force", 0).due(1, "rests", 0, 1, 2, 0)
                .due(5, "rests", 0, 1, 2, 1).due(0, "rests", 0, 1, 2, 2);
        new Checks().parish(third + "0 0").rule("wed 1 if dry=1").due(-1, "force", 0).due(1, "rests", 0, 1, 2, 0)
                .due(5, "rests", 0, 1, 2, 1).due(5, "rests", 0, 1, 2, 2);
        Checks.says("RESTS what 0: how many, 1, 2: DRAWS of the first (-2: there is none). NONE without these (unlike).");
        Checks c = Checks.rich();
        for (int far : FAR) {
            c.still(-1, "rests", far, 0, 1, 0).still(-1, "rests", 0, far, 1, 0);
        }
        for (int n : new int[] {Integer.MIN_VALUE, -1, 0, 21, Integer.MAX_VALUE}) {
            c.still(-1, "rests", 0, 1, n, 0);
        }
        for (int what : new int[] {Integer.MIN_VALUE, -1, 3, Integer.MAX_VALUE}) {
            c.still(-1, "rests", 0, 1, 1, what);
        }
        c.still(-1, "rests", 0, 0, 1, 0).still(-1, "rests", 2, 2, 20, 1);
        new Checks().still(-1, "rests", 0, 1, 1, 0).still(-1, "rests", 0, 0, 1, 0);
    }

    /** By 1 a YEAR a WELL of so much WATER is dry in the YEAR of that number, the first as 1, and stays so. */
    private static void restsOfMostYears() {
        Checks.says("RESTS .. for n YEARS (1 to 20): how much WATER it has drawn in these");
        // 16 less 3 * 5 is above 0.
        new Checks().parish("parish 2 0;well 0 16 0;well 1 16 0").due(1, "rests", 0, 1, 20, 1).due(1, "rests", 0, 1, 20, 2)
                .due(1, "rests", 0, 1, 20, 0);
        // 15 less 3 * 5 is 0 by 19 YEARS, and by 20 below.
        new Checks().parish("parish 2 0;well 0 15 0;well 1 15 0").due(4, "rests", 0, 1, 19, 0).due(0, "rests", 0, 1, 19, 1)
                .due(1, "rests", 0, 1, 20, 0).due(0, "rests", 0, 1, 20, 1).due(0, "rests", 0, 1, 20, 2);
    }

    private static void pence() {
        Checks.says("PENCE (0 to 9999) among FARMS by WATER of the WELLS they have: each the part downwards");
        String three = "parish 3 0;well 0 1 0;well 1 1 0;well 2 1 0";
        Checks c = new Checks().parish(three);
        int[][] parts = {{0, 0, 0}, {1, 0, 0}, {1, 1, 0}, {1, 1, 1}, {2, 1, 1}};
        for (int much = 0; much < parts.length; much++) {
            for (int farm = 0; farm < 3; farm++) {
                c.due(parts[much][farm], "pence", much, farm);
            }
        }
        c.due(3333, "pence", 9999, 0).due(3333, "pence", 9999, 2).due(3333, "pence", 9998, 1).due(3332, "pence", 9998, 2);
        Checks.says("what is left, one each, to those whose part lost most by that, of several the least first");
        new Checks().parish("parish 3 0;well 0 1 0;well 1 2 0;well 2 3 0").due(0, "pence", 1, 0).due(0, "pence", 1, 1)
                .due(1, "pence", 1, 2).due(1, "pence", 4, 0).due(1, "pence", 4, 1).due(2, "pence", 4, 2)
                .due(0, "pence", 2, 0).due(1, "pence", 2, 1).due(1, "pence", 2, 2);
        Checks.says("(nothing, if there is none)");
        c.due(-2, "year").due(0, "count", 6).due(0, "pence", 9999, 0).due(0, "pence", 9999, 2).due(1, "pour", 1, 1)
                .due(9999, "pence", 9999, 1).due(0, "pence", 9999, 0);
        Checks.says("PENCE of a FARM; NONE without these.");
        c = Checks.rich();
        for (int much : new int[] {Integer.MIN_VALUE, -1, 10000, Integer.MAX_VALUE}) {
            c.still(-1, "pence", much, 0);
        }
        for (int far : FAR) {
            c.still(-1, "pence", 0, far).still(-1, "pence", 9999, far);
        }
        new Checks().still(-1, "pence", 0, 0);
    }

    // ---- NOTES

    private static void notes() {
        Checks.says("NOTES 0 to 9, told .. (0 to 60) was of that TASTE (0 to 60); A NOTE: how many");
        Checks c = new Checks().parish("parish 7 0").due(1, "note", 0, 0, 0).due(2, "note", 60, 6, 60);
        for (int i = 3; i <= 10; i++) {
            c.due(i, "note", 1, 1, 0).due(i, "count", 9);
        }
        Checks.says("-2, and nothing happens, without these, or if there are 10.");
        c.still(-2, "note", 1, 1, 0).still(-2, "note", 0, 0, 0).due(10, "count", 9);
        Checks.says("(n NONE: there are none then, 0)");
        c.due(0, "note", -1, 0, 0).due(0, "count", 9).due(1, "note", 0, 0, 0).due(0, "note", -1, -1, -1)
                .still(0, "note", -1, 99, 99);
        Checks.says("-2, and nothing happens, without these, or if there are 10.");
        c = Checks.rich();
        for (int far : new int[] {Integer.MIN_VALUE, -2, 61, Integer.MAX_VALUE}) {
            c.still(-2, "note", far, 0, 0).still(-2, "note", 0, 0, far);
        }
        c.still(-2, "note", 0, 0, -1);
        for (int far : FAR) {
            c.still(-2, "note", 0, far, 0);
        }
        new Checks().still(-2, "note", 0, 0, 0).still(0, "note", -1, 0, 0);
    }

    private static void yearsOfNotes() {
        Checks.says("the WELL that a FARM had behind the n-th YEAR of all (0 to 60)");
        String parish = TWO + ";well 0 9 30";
        for (int year : new int[] {0, 1, 59, 60}) {
            Checks c = new Checks().parish(parish).rule("wed 1 if year=" + year).due(1, "note", year, 0, 10).due(-1, "force", 0);
            // A third of 30, and of 31 and 32, is 10.
            c.due(year == 0 ? 2 : 1, "ruled", 0).due(3, "tastes", 0, 0).due(30, "tastes", 0, 1).due(30, "depths", 1, 0);
            if (year > 0) {
                c.due(2, "note", year - 1, 0, 30).due(1, "ruled", 0).due(0, "ruled", 1);
                c.due(3, "note", year - 1, 0, 10).due(0, "ruled", 0);
            }
        }
        Checks.says("from the begin on, all as the text told it, all NOTES are so");
        // What came by hand since then is not looked at.
        new Checks().parish(parish).due(1, "note", 0, 0, 10).due(0, "wed", 0, 1).due(2, "wed", 0, 1).due(-2, "year")
                .due(18, "dig", 0, 9).due(1, "birth", 0).due(1, "ruled", 0).due(3, "tastes", 0, 0).due(30, "depths", 0, 0);
    }

    private static void ruled() {
        Checks.says("RULED: which of the RULES, and of none .. how many; the first (none ahead of 0, told as NONE)");
        Checks c = new Checks().parish(TWO + ";well 0 9 30").due(1, "ruled", 0).due(-1, "ruled", 1);
        for (int i = 0; i < 6; i++) {
            c.rule("wed " + (i == 5 ? 0 : 1)).due(i + 2, "ruled", 0).due(-1, "ruled", 1);
        }
        c.due(1, "note", 0, 0, 10).due(6, "ruled", 0).due(-1, "ruled", 1);
        c.due(0, "note", -1, 0, 0).due(1, "note", 0, 0, 30).due(1, "ruled", 0).due(5, "ruled", 1);
        Checks.says("1: the first (.. -2: there is none such)");
        c.due(2, "note", 0, 0, 10).due(0, "ruled", 0).due(-2, "ruled", 1);
        Checks.says("-3 for others, or without a PARISH.");
        for (int what : NO_WHAT) {
            c.still(-3, "ruled", what);
        }
        new Checks().still(-3, "ruled", 0).still(-3, "ruled", 1).rule("wed 1").still(-3, "ruled", 0);
    }

    private static void looks() {
        Checks.says("LOOK (n 0 to 60) what 0: the FARM, 1: how many");
        for (int year : new int[] {0, 60}) {
            Checks c = new Checks().parish("parish 3 0;kin 1 2;well 1 9 30").rule("wed 0").rule("wed 1 if year=" + year)
                    .due(1, "wed", 1, 2).due(0, "count", 4);
            c.due(1, "look", year, 0);
        }
        Checks.says("the FARM by the TASTE of whose WELL these part best");
        // Each of none and of the 6 is told apart from all others: by the FARM with which FARM 0 WEDS, or by nobody.
        Checks all = new Checks().parish("parish 7 0;kin 0 1;kin 0 2;kin 0 3;kin 0 4;kin 0 5;kin 0 6;well 1 9 3;well 2 9 6;"
                + "well 3 9 9;well 4 9 12;well 5 9 15;well 6 9 18;well 0 9 30");
        for (int groom = 2; groom <= 6; groom++) {
            all.rule("wed 1 if groom=" + groom);
        }
        all.rule("wed 0").due(7, "ruled", 0).due(0, "look", 0, 0).due(1, "look", 0, 1);
        all.due(1, "note", 0, 0, 30).due(1, "ruled", 0).due(5, "ruled", 1).due(0, "look", 60, 0).due(1, "look", 60, 1);
        Checks.says("the most alike are fewest, of several the least; how many");
        // None and five are alike, and the last one is not; then the first one is not.
        all = new Checks().parish("parish 3 0;kin 0 2;well 2 9 30").rule("wed 1").rule("wed 1").rule("wed 1").rule("wed 1")
                .rule("wed 1").rule("wed 0").due(0, "look", 0, 0).due(6, "look", 0, 1);
        all = new Checks().parish("parish 3 0;kin 0 2;well 2 9 30").rule("wed 0").rule("wed 0").rule("wed 0").rule("wed 0")
                .rule("wed 0").rule("wed 0").due(0, "look", 0, 0).due(6, "look", 0, 1);
        Checks c = new Checks().parish("parish 3 0;kin 1 2;well 1 9 30").rule("wed 0");
        c.due(1, "look", 0, 0).due(1, "look", 0, 1).due(1, "look", 60, 0).due(1, "look", 60, 1);
        new Checks().parish("parish 7 0").due(0, "look", 0, 0).due(1, "look", 0, 1);
        c = new Checks().parish("parish 2 0");
        for (int i = 0; i < 6; i++) {
            c.rule("wed 1").due(i + 2, "look", 60, 1).due(0, "look", 60, 0);
        }
        c = new Checks().parish(TWO + ";well 0 9 30;farm 0 1 1").rule("wed 1 if year=60").rule("wed 0").due(1, "note", 0, 0, 30);
        c.due(2, "look", 59, 1).due(1, "look", 60, 1).due(2, "look", 0, 1);
        Checks.says("-2: no RULE is so.");
        c.due(2, "note", 0, 0, 29).still(-2, "look", 0, 0).still(-2, "look", 60, 1);
        Checks.says("LOOK .. NONE without these, or a PARISH.");
        for (int n : new int[] {Integer.MIN_VALUE, -2, -1, 61, Integer.MAX_VALUE}) {
            c.still(-1, "look", n, 0).still(-1, "look", n, 1);
        }
        for (int what : NO_WHAT) {
            c.still(-1, "look", 0, what);
        }
        new Checks().still(-1, "look", 0, 0).still(-1, "look", 60, 1);
    }

    // ---- DRAWS and DROUGHTS

    private static void seeds() {
        Checks.says("x becomes a number: what it was; NONE, and nothing happens, below 0.");
        new Checks().due(0, "seed", 2147483647).due(2147483647, "seed", 0).due(0, "seed", 1).due(1, "count", 11);
        Checks.rich().still(-1, "seed", -1).still(-1, "seed", Integer.MIN_VALUE).still(7, "seed", 7).due(7, "count", 11);
        new Checks().still(-1, "seed", -1);
    }

    private static long next(long x) {
        return (x * 1103515245L + 12345L) % 2147483648L;
    }

    /** Of two WELLS of 9 and 8 nobody draws; by p the first DRAW brings a drought, and the second one the FARM. */
    private static void droughtBy(int x, int p) {
        long one = next(x);
        long two = next(one);
        boolean dry = one / 65536 % 100 < p;
        int left = !dry ? 17 : two / 65536 % 2 == 0 ? 8 : 9;
        new Checks().parish("parish 2 0;well 1 8 0;farm 0 0 0;farm 1 0 0").due(0, "seed", x).due(left, "droughts", 1, 1, p, 1)
                .due(2, "droughts", 1, 1, p, 0).due(x, "count", 11);
    }

    private static void draws() {
        Checks.says("x becomes x * 1103515245 + 12345, of 2147483648 the rest; a DRAW is x / 65536");
        for (int x : new int[] {0, 1, 2, 3, 65535, 65536, 1073741824, 2147483646, 2147483647}) {
            int draw = (int) (next(x) / 65536 % 100);
            for (int p : new int[] {0, draw, draw + 1, 100}) {
                droughtBy(x, p);
            }
        }
        // From the greatest x the next one is 1043980748: DRAW 15929.
        new Checks().parish("parish 2 0").due(0, "seed", 2147483647).due(16, "droughts", 1, 1, 29, 1)
                .due(8, "droughts", 1, 1, 30, 1);
    }

    private static void droughts() {
        Checks.says("DROUGHTS m times (1 to 10) n YEARS (1 to 60) from now on");
        Checks c = new Checks().parish(TWO).rule("wed 1 if year=0").rule("wed 1 if year=59").rule("wed 1 if year=60");
        c.due(-1, "force", 1);
        for (int m = 1; m <= 10; m++) {
            c.due(2 * m, "droughts", m, 59, 0, 0);
        }
        c.due(0, "droughts", 1, 60, 0, 0).due(0, "droughts", 10, 60, 0, 0).due(1, "force", 2).due(2, "droughts", 1, 60, 0, 0)
                .due(20, "droughts", 10, 60, 0, 0).due(2, "force", 0).due(0, "droughts", 1, 1, 0, 0);
        c = new Checks().parish("parish 7 9;farm 0 0 0").due(63, "droughts", 1, 60, 0, 1).due(630, "droughts", 10, 60, 0, 1)
                .due(70, "droughts", 10, 60, 100, 0);
        Checks.says("DROUGHTS what 0: how many, 1: WATER. NONE without these, or a PARISH.");
        c = Checks.rich();
        for (int far : new int[] {Integer.MIN_VALUE, -1, 0, 11, Integer.MAX_VALUE}) {
            c.still(-1, "droughts", far, 1, 0, 0);
        }
        for (int far : new int[] {Integer.MIN_VALUE, -1, 0, 61, Integer.MAX_VALUE}) {
            c.still(-1, "droughts", 1, far, 0, 0);
        }
        for (int far : new int[] {Integer.MIN_VALUE, -1, 101, Integer.MAX_VALUE}) {
            c.still(-1, "droughts", 1, 1, far, 1);
        }
        for (int what : NO_WHAT) {
            c.still(-1, "droughts", 1, 1, 0, what);
        }
        new Checks().still(-1, "droughts", 1, 1, 0, 0).still(-1, "droughts", 10, 60, 100, 1);
    }

    private static void chanceOfDroughts() {
        Checks.says("a DRAW mod 100: is it below p (0 to 100)");
        // DRAWS whose rest is 0 and 99: by p 0 there is never a drought, by 100 always.
        for (int rest : new int[] {0, 99}) {
            int x = 0;
            while (next(x) / 65536 % 100 != rest) {
                x++;
            }
            for (int p : new int[] {0, 1, 99, 100}) {
                droughtBy(x, p);
            }
        }
        Checks.says("a DRAW mod FARMS: the WELL that FARM has has no WATER");
        for (int farms = 2; farms <= 7; farms++) {
            for (int x = 0; x < 40; x++) {
                StringBuilder text = new StringBuilder("parish " + farms + " 0");
                for (int i = 0; i < farms; i++) {
                    text.append(";farm " + i + " 0 2;well " + i + " " + (i + 1) + " 0");
                }
                int all = farms * (farms + 1) / 2;
                int hit = (int) (next(next(x)) / 65536 % farms);
                new Checks().parish(text.toString()).due(0, "seed", x).due(all - hit - 1, "droughts", 1, 1, 100, 1);
            }
        }
    }

    // ---- counts and IMAGES

    private static void counts() {
        Checks.says("What 0: FARMS, .. 12: bytes of the TAPE. NONE for others.");
        Checks c = Checks.rich();
        int[] due = {3, 1, 2, 0, 1, 0, 0, 0, 0, 2, 5, 7, 18};
        for (int what = 0; what <= 12; what++) {
            if (due[what] != 0 || what == 3) {
                c.still(due[what], "count", what);
            }
        }
        for (int what : new int[] {Integer.MIN_VALUE, -2, -1, 13, Integer.MAX_VALUE}) {
            c.still(-1, "count", what);
            new Checks().still(-1, "count", what);
        }
        c = new Checks().parish("parish 7 9").due(7, "count", 0).due(9, "count", 1).due(127, "count", 5).due(63, "count", 6)
                .due(14, "count", 7).due(0, "count", 8);
        c.parish("parish 7 0;kin 0 1;kin 0 2;kin 0 3;kin 0 4;kin 0 5;kin 0 6;kin 1 2;kin 1 3;kin 1 4;kin 1 5;kin 1 6;"
                + "kin 2 3;kin 2 4;kin 2 5;kin 2 6;kin 3 4;kin 3 5;kin 3 6;kin 4 5;kin 4 6;kin 5 6").due(21, "count", 8);
    }

    private static void images() {
        Checks.says("IMAGES 0 to 3 .. An IMAGE is made: YEAR; NONE without it.");
        Checks c = Checks.rich();
        for (int k : new int[] {Integer.MIN_VALUE, -1, 4, Integer.MAX_VALUE}) {
            c.still(-1, "image", k).still(-1, "back", k);
        }
        c = new Checks().parish("parish 2 9");
        for (int k = 0; k < 4; k++) {
            c.due(k, "image", k).due(k, "count", 10).due(-2, "year");
        }
        for (int k = 3; k >= 0; k--) {
            c.due(k, "back", k).due(k, "count", 4);
        }
        // What can be UNDONE stays with an IMAGE that is made.
        new Checks().parish("parish 2 9").due(-2, "year").due(1, "image", 0).due(1, "count", 10).due(0, "undo");
    }

    private static void backs() {
        Checks.says("All is as in an IMAGE: YEAR; NONE, and nothing happens, if it was never made, or without it.");
        Checks c = Checks.rich().still(-1, "back", 0).still(-1, "back", 2);
        Checks.says("IMAGES 0 to 3: all but the TAPE and the RULES, as it is (the RULE IN FORCE, too)");
        c.due(0, "force", 1).due(7, "seed", 8).due(3, "note", 0, 0, 0).due(0, "end", 0).rule("wed 3").tell("abc");
        c.due(1, "back", 3).due(0, "count", 3).due(7, "count", 11).due(1, "count", 9).due(3, "count", 12).due(3, "count", 2);
        // The PARISH and the NOTES, too.
        Checks d = new Checks().parish(TWO + ";well 0 9 30;farm 0 3 7").due(1, "note", 0, 0, 10).due(0, "image", 0);
        d.parish("parish 3 5;kin 1 2;well 0 4 4").due(1, "note", 7, 2, 3).due(0, "image", 1).due(0, "back", 0);
        d.due(2, "count", 0).due(0, "count", 1).due(2, "farm", 0, 3).due(3, "farm", 0, 0).due(7, "farm", 0, 1)
                .due(30, "well", 0, 1).due(1, "ruled", 0).due(3, "tastes", 0, 0).due(30, "tastes", 0, 1).due(2, "lies", 30);
        d.due(0, "back", 1).due(3, "count", 0).due(5, "count", 1).due(4, "farm", 1, 3).due(4, "well", 0, 0)
                .due(0, "ruled", 0).due(2, "lies", 30).due(-2, "fewest", 213).due(0, "back", 0).due(1, "ruled", 0);
        Checks.says("(these stay; nothing can be UNDONE then)");
        c.due(0, "count", 10).still(-1, "undo");
        // Gone back to once more, it is as it was again.
        c.due(9, "pour", 2, 1).still(1, "image", 3).due(1, "back", 3).still(1, "back", 3).due(0, "count", 10);
        // An IMAGE made anew is the last one.
        c.call("year");
        c.due(2, "image", 3).due(1, "back", 1).due(2, "back", 3);
    }
}

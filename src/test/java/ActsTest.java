/** Promises 7 to 15 and 35: what is, ACTS by hand, what is UNDONE, counts. */
public final class ActsTest {
    static final String THREE = "parish 3 1;well 0 4 30;well 1 2 0;well 2 9 12;farm 0 2 3;farm 1 1 1;kin 0 1;kin 1 2";
    static final String DRY = "parish 2 0;well 0 2 9;well 1 3 0;farm 0 1 1;farm 1 2 1;kin 0 1";

    public static void main(String[] args) {
        wrongNumbers();
        yearWithoutRule();
        dryYears();
        chosenTwo();
        depthAtMostForty();
        lastYear();
        weddings();
        pouring();
        digging();
        births();
        undone();
        counts();
        Checks.close("ActsTest");
    }

    private static void wrongNumbers() {
        Checks c = new Checks().parish(THREE);
        for (int wrong : new int[] {-1, 3, 7, Integer.MIN_VALUE, Integer.MAX_VALUE}) {
            c.due(-1, "well", wrong, 0).due(-1, "farm", wrong, 0).due(-1, "wed", wrong, 0).due(-1, "wed", 1, wrong)
                    .due(-1, "pour", wrong, 1).due(-1, "dig", wrong, 1).due(-1, "birth", wrong);
        }
        c.due(-1, "well", 0, 4).due(-1, "well", 0, -1).due(-1, "farm", 0, 4).due(-1, "farm", 0, -1);
        c.due(0, "count", 10).due(123, "lie");
    }

    private static void yearWithoutRule() {
        Checks c = new Checks().parish(THREE).due(1, "year").due(1, "count", 4).due(213, "lie");
        c.due(20, "well", 0, 1).due(10, "well", 1, 1).due(12, "well", 2, 1);
        c.due(4, "well", 0, 2).due(1, "well", 1, 2).due(9, "well", 2, 2);
        c.due(1, "well", 0, 3).due(0, "well", 1, 3).due(1, "farm", 0, 2).due(0, "farm", 1, 2).due(2, "farm", 2, 2);
        c.due(2, "farm", 0, 1).due(0, "farm", 1, 1).due(2, "farm", 2, 1);
        // FARM 1 has no HEIR until the fifth YEAR is over.
        c.due(-2, "year").due(-2, "year").due(-2, "year").due(0, "farm", 1, 1).due(-2, "year");
        c.due(3, "farm", 0, 1).due(1, "farm", 1, 1).due(3, "farm", 2, 1).due(1, "year").due(123, "lie");
    }

    private static void dryYears() {
        Checks c = new Checks().parish(DRY).due(1, "year").due(6, "well", 0, 1).due(3, "well", 1, 1);
        c.due(0, "well", 0, 2).due(3, "well", 0, 0).due(2, "well", 1, 2).due(3, "well", 1, 0);
        c.due(-2, "year").due(4, "well", 0, 0).due(3, "well", 1, 0).due(1, "well", 1, 2);
        c.due(-2, "year").due(5, "well", 0, 0).due(4, "well", 1, 0).due(0, "well", 1, 2);
        c.due(-2, "year").due(-2, "year").due(1, "farm", 0, 1).due(1, "year").due(12, "lie");
        c.due(5, "well", 0, 1).due(4, "well", 1, 1);
    }

    private static void chosenTwo() {
        String all = "parish 4 2;kin 0 1;kin 0 2;kin 0 3;kin 1 2;kin 1 3;kin 2 3";
        new Checks().parish(all).rule("wed groom").due(-1, "force", 0).due(3, "year");
        new Checks().parish(all).rule("wed bride").due(-1, "force", 0).due(8 * 2 + 3, "year");
        new Checks().parish(all).rule("wed bride*groom%3").due(-1, "force", 0).due(8 + 2, "year");
        new Checks().parish(all).rule("wed 7").due(-1, "force", 0).due(1, "year");
        new Checks().parish(all).rule("wed bride-5").due(-1, "force", 0).due(-2, "year").due(1, "count", 4);
        new Checks().parish(all + ";farm 3 1 0").rule("wed groom").due(-1, "force", 0).due(2, "year");
        new Checks().parish("parish 4 2;kin 3 2").due(8 * 2 + 3, "year");
    }

    private static void depthAtMostForty() {
        Checks c = new Checks().parish("parish 2 0;well 0 1 0;farm 0 5 0;farm 1 0 0");
        c.due(10, "dig", 0, 9).due(19, "dig", 0, 9).due(28, "dig", 0, 9).due(37, "dig", 0, 9);
        for (int depth : new int[] {38, 39, 40, 40, 40}) {
            c.due(-2, "year").due(depth, "well", 0, 0).due(0, "well", 0, 2);
        }
        c.due(5, "dry", 0);
    }

    private static void lastYear() {
        Checks c = new Checks().parish(DRY);
        for (int i = 0; i < 999; i++) {
            c.call("year");
        }
        c.due(999, "count", 4).due(-1, "year").due(999, "count", 4).due(20, "count", 10).due(999, "dry", 0);
        c.due(19, "undo").due(998, "count", 4);
    }

    private static void weddings() {
        Checks c = new Checks().parish(THREE).due(1, "wed", 1, 0).due(213, "lie").due(0, "count", 4);
        c.due(20, "well", 0, 1).due(10, "well", 1, 1).due(2, "farm", 0, 1).due(0, "farm", 1, 1).due(1, "count", 10);
        c.due(-1, "wed", 0, 1).due(-1, "wed", 1, 2).due(-1, "wed", 0, 2).due(-1, "wed", 0, 0).due(1, "count", 10);
        c.due(1, "birth", 1).due(0, "wed", 2, 1).due(231, "lie");
        // A third towards 0: of 8 less 20 it is -4, of 12 less 10 it is 0.
        c = new Checks().parish("parish 2 0;well 0 9 10;well 1 9 12;kin 0 1").due(0, "wed", 0, 1).due(10, "well", 0, 1)
                .due(12, "well", 1, 1);
        c = new Checks().parish("parish 2 0;well 0 9 8;well 1 9 19;kin 0 1").due(0, "wed", 0, 1).due(11, "well", 0, 1)
                .due(16, "well", 1, 1).due(2, "wed", 0, 1).due(12, "well", 0, 1).due(15, "well", 1, 1).due(-1, "wed", 0, 1);
    }

    private static void pouring() {
        Checks c = new Checks().parish(DRY).due(1, "year");
        c.due(-1, "pour", 0, 0).due(-1, "pour", 0, 31).due(-1, "pour", 0, -1).due(1, "count", 10);
        c.due(1, "pour", 0, 1).due(3, "pour", 0, 30).due(3, "pour", 0, 1).due(4, "count", 10).due(3, "well", 0, 2);
    }

    private static void digging() {
        Checks c = new Checks().parish("parish 2 0;well 1 30 0");
        c.due(-1, "dig", 1, 0).due(-1, "dig", 1, 10).due(0, "count", 10);
        c.due(39, "dig", 1, 9).due(40, "dig", 1, 9).due(40, "dig", 1, 1).due(3, "count", 10).due(30, "well", 1, 2)
                .due(40, "pour", 1, 30);
    }

    private static void births() {
        Checks c = new Checks().parish("parish 2 0;farm 0 1 7");
        c.due(8, "birth", 0).due(9, "birth", 0).due(-1, "birth", 0).due(2, "count", 10).due(3, "birth", 1);
        // The fifth YEAR goes up to 9, too.
        for (int i = 0; i < 5; i++) {
            c.call("year");
        }
        c.due(9, "farm", 0, 1).due(4, "farm", 1, 1);
    }

    private static void undone() {
        Checks c = new Checks().parish(THREE).due(-1, "undo");
        c.due(1, "year").due(3, "birth", 2).due(9, "pour", 2, 1).due(18, "dig", 2, 9).due(1, "birth", 1);
        c.due(0, "wed", 2, 1).due(231, "lie").due(6, "count", 10);
        c.due(5, "undo").due(213, "lie").due(1, "farm", 1, 1).due(4, "undo").due(0, "farm", 1, 1).due(3, "undo")
                .due(9, "well", 2, 0).due(2, "undo").due(1, "undo").due(2, "farm", 2, 1).due(0, "undo").due(0, "count", 4)
                .due(123, "lie").due(30, "well", 0, 1).due(4, "well", 0, 2).due(3, "farm", 0, 1).due(-1, "undo");
        c = new Checks().parish("parish 2 0");
        for (int i = 0; i < 25; i++) {
            c.due(-2, "year");
        }
        c.due(20, "count", 10);
        for (int left = 19; left >= 0; left--) {
            c.due(left, "undo");
        }
        c.due(-1, "undo").due(5, "count", 4).due(-2, "year").due(1, "count", 10).due(0, "undo").due(5, "count", 4);
    }

    private static void counts() {
        Checks c = new Checks().parish(THREE).rule("wed 1").due(-1, "force", 0).due(1, "year").due(1, "note", 0, 0, 0)
                .due(0, "seed", 99).tell("abc");
        int[] due = {3, 1, 1, 0, 1, 4, 14, 4, 0, 1, 1, 99, 3};
        for (int i = 0; i < due.length; i++) {
            c.due(due[i], "count", i);
        }
        c.due(-1, "count", 13).due(-1, "count", -1);
        new Checks().parish(THREE).due(2, "count", 8).due(7, "count", 5).due(15, "count", 6).due(6, "count", 7);
    }
}

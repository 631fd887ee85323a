/** Promises 26, 27, 30 to 32, 36 and 37: what was noted, and IMAGES. */
public final class NotesTest {
    private static final String TWO = "parish 2 0;well 0 5 30;well 1 9 0;kin 0 1";

    public static void main(String[] args) {
        notes();
        behindTheYear();
        depths();
        tastes();
        fromTheBegin();
        ruled();
        look();
        images();
        Checks.close("NotesTest");
    }

    private static void notes() {
        Checks c = new Checks().parish(TWO);
        c.due(-2, "note", -2, 0, 0).due(-2, "note", 61, 0, 0).due(-2, "note", 0, 2, 0).due(-2, "note", 0, -1, 0)
                .due(-2, "note", 0, 0, -1).due(-2, "note", 0, 0, 61).due(0, "count", 9);
        for (int i = 1; i <= 10; i++) {
            c.due(i, "note", 60, 1, 60);
        }
        c.due(-2, "note", 0, 0, 0).due(10, "count", 9).due(0, "note", -1, 99, 99).due(0, "count", 9).due(1, "note", 0, 0, 0);
        c.due(0, "count", 10);
    }

    /**
     * Of TWO behind YEAR 0, when both have WED: FARM 0 has WELL 1 of TASTE 10, FARM 1 WELL 0 of 20; behind YEAR 1
     * FARM 0 has WELL 0 of 17, FARM 1 WELL 1 of 13.
     */
    private static void behindTheYear() {
        Checks c = new Checks().parish(TWO).due(1, "note", 0, 0, 10).due(2, "note", 0, 1, 20).due(3, "note", 1, 0, 17)
                .due(4, "note", 1, 1, 13).due(1, "ruled", 0).due(-1, "ruled", 1).due(1, "look", 1, 1);
        // How it was at the begin can't be noted.
        new Checks().parish(TWO).due(1, "note", 0, 0, 30).due(0, "ruled", 0).due(-2, "ruled", 1).due(-2, "look", 0, 0)
                .due(0, "depths", 0, 0).due(0, "depths", 1, 0).due(-2, "depths", 1, 1);
        // The least of the first one's TASTES: behind YEAR 0 FARM 0 has a third of it.
        c.due(0, "note", -1, 0, 0).due(1, "note", 0, 0, 0).due(3, "tastes", 0, 0).due(0, "tastes", 0, 1);
        // YEAR 60, the last one that can be noted, has passed, too.
        c = new Checks().parish(TWO).rule("wed 1 if year=60").rule("wed 1 if year=61").due(1, "note", 59, 0, 30)
                .due(2, "ruled", 0).due(0, "ruled", 1).due(2, "look", 59, 1).due(1, "look", 60, 1);
        c.due(2, "note", 60, 0, 10).due(1, "ruled", 0).due(0, "ruled", 1).due(-1, "force", 0).due(1, "tastes", 0, 0)
                .due(30, "tastes", 0, 1).due(30, "depths", 0, 0).due(0, "force", 1).due(0, "tastes", 0, 0)
                .due(0, "depths", 0, 0);
    }

    private static void depths() {
        Checks c = new Checks().parish(TWO).rule("wed 1 if full > 3").due(-1, "force", 0);
        c.due(30, "depths", 0, 0).due(1, "depths", 0, 1);
        c.due(1, "note", 0, 0, 10).due(27, "depths", 0, 0).due(4, "depths", 0, 1).due(30, "depths", 1, 0);
        c.due(2, "note", 1, 0, 17).due(27, "depths", 0, 0).due(4, "depths", 0, 1);
        // In YEAR 1 FARM 0 has WELL 1, from which 1 was drawn: of 5 there are 4.
        c.due(26, "depths", 1, 0).due(5, "depths", 1, 1);
        c.due(3, "note", 1, 0, 29).due(0, "depths", 0, 0).due(-2, "depths", 0, 1);
        c.due(0, "note", -1, 0, 0).due(1, "note", 0, 0, 30).due(3, "depths", 0, 0).due(1, "depths", 0, 1)
                .due(0, "depths", 1, 0);
        c.due(-1, "depths", 2, 0).due(-1, "depths", -1, 0).due(-1, "depths", 0, 2).due(-1, "depths", 0, -1);
        // Without the RULE they WED whatever the DEPTH is.
        c.due(0, "force", -1).due(0, "depths", 0, 0);
    }

    private static void tastes() {
        Checks c = new Checks().parish(TWO).due(61, "tastes", 0, 0).due(0, "tastes", 0, 1);
        c.due(1, "note", 0, 0, 10).due(3, "tastes", 0, 0).due(30, "tastes", 0, 1);
        c.due(2, "note", 0, 1, 21).due(1, "tastes", 0, 0).due(31, "tastes", 0, 1);
        // With 30 at FARM 0 it would be 1 at FARM 1.
        c.due(1, "tastes", 1, 0).due(1, "tastes", 1, 1);
        c.due(3, "note", 1, 0, 18).due(1, "tastes", 0, 0).due(31, "tastes", 0, 1).due(1, "tastes", 1, 0);
        c.due(-1, "tastes", 2, 0).due(-1, "tastes", -1, 0).due(-1, "tastes", 0, 2).due(-1, "tastes", 0, -1);
        c.due(4, "note", 60, 0, 60).due(0, "tastes", 0, 0).due(-2, "tastes", 0, 1).due(30, "well", 0, 1);
    }

    /** What was done by hand does not count: all is as the text told it. */
    private static void fromTheBegin() {
        new Checks().parish(TWO).due(1, "note", 0, 0, 10).due(0, "wed", 0, 1).due(2, "wed", 0, 1)
                .due(-2, "year").due(14, "dig", 0, 9).due(3, "tastes", 0, 0).due(1, "ruled", 0).due(4, "count", 10)
                .due(0, "look", 0, 0);
    }

    private static void ruled() {
        Checks c = new Checks().parish(TWO).due(1, "ruled", 0).due(-1, "ruled", 1);
        c.rule("wed 1 if full > 3").rule("wed 0").due(3, "ruled", 0).due(-1, "ruled", 1);
        c.due(1, "note", 0, 0, 10).due(2, "ruled", 0).due(-1, "ruled", 1);
        c.due(0, "note", -1, 0, 0).due(1, "note", 0, 0, 30).due(1, "ruled", 0).due(1, "ruled", 1);
        c.due(2, "note", 0, 0, 10).due(0, "ruled", 0).due(-2, "ruled", 1);
        c.due(-3, "ruled", 2).due(-3, "ruled", -1).due(-2, "look", 1, 0).due(-2, "look", 1, 1);
        // Of six the last one alone.
        new Checks().parish(TWO).rule("wed 0").rule("wed 0").rule("wed 0").rule("wed 0").rule("wed 0")
                .rule("wed 1 if year=1").due(1, "note", 0, 0, 30).due(2, "note", 1, 0, 10).due(1, "ruled", 0)
                .due(5, "ruled", 1).due(0, "look", 3, 0).due(1, "look", 3, 1).due(0, "note", -1, 0, 0).due(7, "ruled", 0)
                .due(6, "look", 0, 1).due(5, "look", 1, 1);
        // The RULE IN FORCE has no part in it.
        c.due(0, "note", -1, 0, 0).due(-1, "force", 1).due(1, "note", 0, 0, 10).due(2, "ruled", 0).due(-1, "ruled", 1);
    }

    private static void look() {
        Checks c = new Checks().parish("parish 3 0;well 1 5 30;well 2 5 0;kin 1 2").rule("wed 1 if full > 3").rule("wed 0");
        c.due(1, "look", 0, 0).due(2, "look", 0, 1).due(1, "look", 1, 0).due(2, "look", 1, 1);
        c.due(-1, "look", -1, 0).due(-1, "look", 61, 0).due(-1, "look", 1, 2).due(-1, "look", 1, -1);
        c.due(1, "note", 0, 2, 20).due(2, "ruled", 0).due(0, "look", 0, 0).due(2, "look", 0, 1);
        // They part in YEAR 5, when there are HEIRS again and the WELLS are dry.
        c.due(0, "look", 4, 0).due(2, "look", 4, 1).due(1, "look", 5, 0).due(1, "look", 5, 1);
        // One that is left is alike with itself.
        c.due(0, "note", -1, 0, 0).due(1, "note", 0, 1, 30).due(0, "look", 60, 0).due(1, "look", 60, 1);
    }

    private static void images() {
        Checks c = new Checks().due(-1, "image", -1).due(-1, "image", 4).due(-1, "back", 0).due(-1, "back", 4)
                .due(-1, "back", -1).due(0, "image", 3);
        c.parish(ActsTest.THREE).rule("wed 1").rule("wed 2").due(-1, "force", 0).due(1, "note", 2, 0, 5).due(0, "seed", 8);
        c.due(1, "year").due(-2, "year").due(2, "image", 0).tell("xy");
        c.due(0, "force", 1).due(8, "seed", 9).due(2, "note", 3, 0, 5).due(-2, "year").due(0, "end", 0);
        c.parish("parish 2 5").due(2, "count", 0).due(9, "pour", 0, 1).tell("xyz").due(2, "back", 0);
        int[] counts = {3, 1, 2, 0, 2, 4, 14, 4, 0, 1, 0, 8, 3};
        for (int i = 0; i < counts.length; i++) {
            c.due(counts[i], "count", i);
        }
        c.due(213, "lie").due(-1, "undo").due(20, "well", 0, 1).due(2, "farm", 0, 3).due(2, "farm", 0, 0);
        // What happens behind an IMAGE does not change it, and it can be gone back to again.
        c.due(-2, "year").due(0, "note", -1, 0, 0).due(2, "back", 0).due(2, "count", 4).due(1, "count", 9);
        c.due(2, "image", 1).due(-2, "year").due(3, "image", 0).due(2, "back", 1).due(3, "back", 0).due(-1, "back", 2);
        // A NOTE comes back with its YEAR, FARM and TASTE.
        c.due(0, "note", -1, 0, 0).due(1, "note", 0, 0, 10).due(2, "tastes", 1, 0).due(3, "image", 2)
                .due(0, "note", -1, 0, 0).due(1, "note", 5, 2, 3).due(0, "tastes", 1, 0).due(3, "back", 2)
                .due(2, "tastes", 1, 0).due(0, "tastes", 1, 1);
        // There was no PARISH in this one; the RULES stay.
        c.due(0, "back", 3).due(0, "count", 0).due(-1, "lie").due(-1, "year").due(2, "count", 2).due(-1, "count", 3)
                .due(0, "count", 11).due(0, "count", 9).due(0, "count", 4).due(-1, "fewest", 123);
        c.due(3, "back", 0).due(3, "count", 0);
    }
}

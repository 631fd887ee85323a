/** Promises 22 to 25, 28, 29, 33 and 34: how it goes on, RESTS, PENCE, DROUGHTS. */
public final class AheadTest {
    public static void main(String[] args) {
        ahead();
        dryAndHome();
        heirs();
        rests();
        pence();
        seeds();
        droughts();
        Checks.close("AheadTest");
    }

    private static void ahead() {
        Checks c = new Checks().parish(ActsTest.DRY);
        c.due(12, "ahead", 0, 0, 0).due(2, "ahead", 0, 0, 1).due(9, "ahead", 0, 0, 2).due(2, "ahead", 0, 0, 3);
        c.due(21, "ahead", 0, 1, 0).due(0, "ahead", 0, 1, 1).due(2, "ahead", 1, 1, 1).due(6, "ahead", 0, 1, 2)
                .due(3, "ahead", 1, 1, 2).due(0, "ahead", 1, 1, 3);
        c.due(21, "ahead", 0, 5, 0).due(2, "ahead", 0, 5, 3).due(12, "ahead", 0, 6, 0).due(5, "ahead", 0, 6, 2)
                .due(0, "ahead", 0, 6, 3);
        // A WELL is asked for by the second and the third one alone.
        c.due(21, "ahead", 9, 1, 0).due(0, "ahead", -5, 1, 3).due(-1, "ahead", 2, 1, 1).due(-1, "ahead", -1, 1, 2);
        c.due(-1, "ahead", 0, 101, 0).due(-1, "ahead", 0, -1, 0).due(-1, "ahead", 0, 1, 4).due(-1, "ahead", 0, 1, -1);
        c.due(12, "lie").due(0, "count", 4).due(0, "count", 10).due(9, "well", 0, 1);
        // By the RULE IN FORCE.
        c.rule("wed 1 if year=2").due(-1, "force", 0).due(12, "ahead", 0, 2, 0).due(21, "ahead", 0, 3, 0);
        new Checks().parish("parish 2 0").due(18, "count", 6);
    }

    private static void dryAndHome() {
        Checks c = new Checks().parish(ActsTest.DRY).due(0, "dry", 0).due(2, "dry", 1).due(5, "home").due(-1, "dry", 2)
                .due(-1, "dry", -1);
        c.due(1, "year").due(1, "dry", 0).due(2, "dry", 1).due(5, "home");
        for (int i = 0; i < 5; i++) {
            c.call("year");
        }
        // Behind YEAR 5 all are at home; this YEAR, the sixth, is the first that counts.
        c.due(12, "lie").due(6, "home").due(6, "dry", 0).due(6, "dry", 1);
        // Without KIN all stay at home; with RAIN none is dry.
        c = new Checks().parish("parish 2 9").due(0, "home").due(-2, "dry", 0).due(-2, "dry", 1);
        c = new Checks().parish("parish 2 9;kin 0 1;farm 0 0 1;farm 1 0 1").rule("wed 0").due(0, "wed", 0, 1)
                .due(-1, "force", 0).due(-2, "home");
        // Of 200 YEARS: 199 is the last.
        c.rule("wed 1 if year=199").rule("wed 1 if year=200").due(0, "force", 1).due(199, "home").due(1, "force", 2)
                .due(-2, "home").due(-2, "year").due(200, "home").due(-2, "force", 7);
        c = new Checks().parish("parish 2 0;well 0 5 0;farm 0 0 9;farm 1 5 9;kin 0 1").rule("wed 1 if year=199")
                .rule("wed 1 if year=200").due(-1, "force", 0).due(199, "dry", 0).due(1, "dry", 1).due(0, "force", 1)
                .due(-2, "dry", 0).due(-2, "year").due(200, "dry", 0);
    }

    private static void heirs() {
        Checks c = new Checks().parish("parish 2 0;farm 0 1 1;farm 1 1 2;kin 0 1").due(0, "wed", 0, 1);
        c.due(0, "heir", 1, 0).due(2, "heir", 1, 1).due(0, "farm", 0, 1).due(1, "count", 10);
        c.due(-2, "heir", 0, 0).due(-2, "heir", 41, 0).due(-2, "heir", 1, 2).due(-2, "heir", 1, -1);
        // None is ahead of all that are no better.
        c = new Checks().parish("parish 3 0").due(-1, "heir", 1, 0).due(3, "heir", 1, 1).due(-1, "heir", 40, 0);
        // Of several FARMS the least.
        c = new Checks().parish("parish 3 0;kin 0 1;kin 1 2;kin 0 2;farm 0 1 1;farm 1 1 1;farm 2 1 0")
                .rule("wed 1 if hers=1 and his=0").due(1, "wed", 0, 1).due(-1, "force", 0).due(1, "birth", 1)
                .due(0, "heir", 1, 0).due(3, "heir", 1, 1);
        // One that has 9 gets none more.
        c = new Checks().parish("parish 2 0;kin 0 1;farm 0 1 9;farm 1 1 9").rule("wed heirs-18").due(-1, "force", 0)
                .due(-1, "heir", 1, 0).due(2, "heir", 1, 1);
    }

    private static void rests() {
        Checks c = new Checks().parish("parish 2 0;well 0 3 0;well 1 2 0;farm 0 5 0");
        c.due(1, "rests", 0, 1, 1, 0).due(2, "rests", 0, 1, 1, 1).due(1, "rests", 0, 1, 1, 2);
        c.due(1, "rests", 1, 0, 1, 0).due(1, "rests", 1, 0, 1, 1).due(2, "rests", 1, 0, 1, 2);
        c.due(2, "rests", 0, 1, 3, 0).due(0, "rests", 0, 1, 3, 1).due(0, "rests", 0, 1, 3, 2);
        c.due(-1, "rests", 0, 0, 1, 0).due(-1, "rests", 0, 2, 1, 0).due(-1, "rests", -1, 1, 1, 0)
                .due(-1, "rests", 0, 1, 0, 0).due(-1, "rests", 0, 1, 21, 0).due(-1, "rests", 0, 1, 1, 3)
                .due(-1, "rests", 0, 1, 1, -1);
        c.due(5, "farm", 0, 0).due(0, "count", 4).due(5, "count", 6);
        /*
         * They WED in both YEARS, so each has the other one's WELL first and its own then. By 3 and 0 the first has 3,
         * and 2 less 3; by 4 it would have 4 less 3, and 2 less 3. The second has 0; by 1 it would have 1, and 1 less 3.
         * By 1 and 0 the first has as much, but the second would have 1 and 1 by 1.
         */
        c = new Checks().parish("parish 2 0;well 0 2 0;well 1 4 0;kin 0 1");
        c.due(1, "rests", 0, 1, 2, 0).due(3, "rests", 0, 1, 2, 1).due(0, "rests", 0, 1, 2, 2);
        c.due(1, "rests", 1, 0, 2, 0).due(0, "rests", 1, 0, 2, 1).due(3, "rests", 1, 0, 2, 2);
        // By 0 of the second the first is best with 3, so the second with 3, so the first with 5, so the second with 0.
        c = new Checks().parish("parish 2 0;well 0 7 0;well 1 2 0;kin 0 1").rule("wed 1 if low=0").due(-1, "force", 0);
        c.due(0, "rests", 0, 1, 2, 0).due(-2, "rests", 0, 1, 2, 1).due(-2, "rests", 0, 1, 2, 2);
    }

    private static void pence() {
        Checks c = new Checks().parish(ActsTest.THREE).due(3, "pence", 10, 0).due(1, "pence", 10, 1).due(6, "pence", 10, 2);
        c.due(0, "pence", 0, 0).due(-1, "pence", -1, 0).due(-1, "pence", 10000, 0).due(-1, "pence", 1, 3)
                .due(-1, "pence", 1, -1);
        // 9999 of 15: 2666 and 6, 1333 and 3, 5999 and 6: the last one goes to the least.
        c.due(2667, "pence", 9999, 0).due(1333, "pence", 9999, 1).due(5999, "pence", 9999, 2);
        // By the WELLS they have.
        c.due(1, "wed", 0, 1).due(1, "pence", 10, 0).due(3, "pence", 10, 1);
        // By WATER, not by DEPTH: of 4, 5 and 6 it is 2 and 10, 3 and 5, 4 and none.
        new Checks().parish("parish 3 0;farm 0 5 2;farm 1 4 2;farm 2 3 2").due(-2, "year").due(15, "count", 6)
                .due(3, "pence", 10, 0).due(3, "pence", 10, 1).due(4, "pence", 10, 2);
        c = new Checks().parish("parish 3 0;well 0 1 0;well 1 1 0;well 2 1 0");
        c.due(4, "pence", 10, 0).due(3, "pence", 10, 1).due(3, "pence", 10, 2).due(4, "pence", 11, 1).due(3, "pence", 11, 2);
        c.due(-2, "year").due(0, "count", 6).due(0, "pence", 10, 0).due(-1, "pence", 10, 3);
    }

    private static void seeds() {
        Checks c = new Checks().due(0, "seed", 5).due(5, "seed", 2147483647).due(-1, "seed", -1)
                .due(-1, "seed", Integer.MIN_VALUE).due(2147483647, "count", 11).due(2147483647, "seed", 0);
    }

    private static void droughts() {
        // x 0: the DRAWS are 0, 21468, 9988, 22117, 3498, 16927, 16045 ..
        Checks c = new Checks().parish("parish 2 0;well 0 9 0;well 1 8 0;farm 0 0 0;farm 1 0 0");
        c.due(17, "droughts", 1, 1, 0, 1).due(2, "droughts", 1, 1, 0, 0).due(8, "droughts", 1, 1, 1, 1);
        // By p 1 the second YEAR's DRAW, 9988, is no drought; by 100 it is, and 22117 takes the other WELL.
        c.due(8, "droughts", 1, 2, 1, 1).due(0, "droughts", 1, 2, 100, 1);
        // The second time goes on where the first one ended.
        c.due(8 + 17, "droughts", 2, 1, 1, 1).due(4, "droughts", 2, 1, 1, 0).due(8 + 9, "droughts", 2, 1, 100, 1);
        c.due(0, "count", 11).due(17, "count", 6).due(0, "count", 4);
        c.due(-1, "droughts", 0, 1, 1, 0).due(-1, "droughts", 11, 1, 1, 0).due(-1, "droughts", 1, 0, 1, 0)
                .due(-1, "droughts", 1, 61, 1, 0).due(-1, "droughts", 1, 1, -1, 0).due(-1, "droughts", 1, 1, 101, 0)
                .due(-1, "droughts", 1, 1, 1, 2).due(-1, "droughts", 1, 1, 1, -1);
        // Ahead of the YEAR the WELL has no WATER, behind it what has rained; its DEPTH is as it was.
        new Checks().parish("parish 2 3;well 0 9 0;well 1 8 0;farm 0 0 0;farm 1 0 0").due(3 + 8, "droughts", 1, 1, 1, 1)
                .due(9 + 8, "droughts", 1, 3, 1, 1).due(9, "well", 0, 0);
        // The RULE IN FORCE sees the drought of its YEAR.
        new Checks().parish("parish 2 0;farm 0 0 1;farm 1 0 1;kin 0 1").rule("wed 1 if dry=1 and full=0 and low=9")
                .due(-1, "force", 0).due(2, "droughts", 1, 1, 0, 0).due(0, "droughts", 1, 1, 1, 0);
        // By the WELL that the FARM has, not by the one that is at home there.
        c = new Checks().parish("parish 2 0;well 0 9 0;well 1 8 0;farm 0 0 1;farm 1 0 1;kin 0 1").due(0, "wed", 0, 1);
        c.due(9, "droughts", 1, 1, 1, 1).due(0, "droughts", 10, 3, 50, 0);
    }
}

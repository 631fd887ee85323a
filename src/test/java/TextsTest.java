/** Promises 1 to 6: a new object, the TAPE, PARISHES and RULES with their FAULTS, the RULE IN FORCE. */
public final class TextsTest {
    private static final String WED_ONE = "parish 2 0;kin 0 1";

    public static void main(String[] args) {
        newObject();
        feedAndEnd();
        parishes();
        parishFaults();
        clausesOfParish();
        fullTapes();
        ruleNumbers();
        ruleFaults();
        deepTests();
        manyValues();
        manyClauses();
        sums();
        words();
        signs();
        tests();
        firstClauseThatHolds();
        force();
        Checks.close("TextsTest");
    }

    private static void newObject() {
        Checks c = new Checks();
        Checks.check("NONE", WellSwap.NONE, -1);
        int[] counts = {0, 0, 0, -1, 0, 0, 0, 0, 0, 0, 0, 0, 0};
        for (int i = 0; i < counts.length; i++) {
            c.due(counts[i], "count", i);
        }
        c.due(-1, "well", 0, 0).due(-1, "farm", 0, 0).due(-1, "lie").due(-1, "year").due(-1, "wed", 0, 1)
                .due(-1, "pour", 0, 1).due(-1, "dig", 0, 1).due(-1, "birth", 0).due(-1, "undo").due(-1, "fewest", 12)
                .due(-1, "step", 12, 0, 0).due(-1, "lies", 0).due(-1, "farthest", 0).due(-1, "comes", 0, 0)
                .due(-1, "rings", 0).due(-1, "ahead", 0, 0, 0).due(-1, "dry", 0).due(-1, "home").due(-2, "heir", 1, 0)
                .due(-1, "depths", 0, 0).due(-1, "tastes", 0, 0).due(-1, "rests", 0, 1, 1, 0).due(-1, "pence", 0, 0)
                .due(-2, "note", 0, 0, 0).due(0, "note", -1, 0, 0).due(-3, "ruled", 0).due(-1, "look", 0, 0)
                .due(-1, "droughts", 1, 1, 0, 0).due(-1, "back", 0).due(-2, "force", 0).due(-1, "force", -1);
    }

    private static void feedAndEnd() {
        Checks c = new Checks();
        c.due(-1, "end", 1).due(0, "end", 0).due(-1, "end", -1);
        for (int i = 1; i <= 20; i++) {
            c.due(20 * i, "feed", -1, 0, i, 1 << 31, 77);
        }
        c.due(-1, "feed", 0, 0, 0, 0, 0).due(400, "count", 12).due(-1, "end", 401).due(400, "end", 400);
        c.due(381, "end", 381).due(-1, "feed", 0, 0, 0, 0, 0).due(381, "count", 12);
        c.due(380, "end", 380).due(400, "feed", 0, 0, 0, 0, 0).due(0, "end", 0).due(0, "count", 12);
        // The highest byte of each number is the first.
        c.due(20, "feed", 0x70617269, 0x73682032, 0x20373b6b, 0x696e2030, 0x20310000).due(18, "end", 18).due(2, "parish");
        c.due(7, "count", 1).due(2, "farm", 0, 3);
        // Bytes above 127 are bytes as well.
        Checks.parishFault("parish 2 0\u00ff", 10, 0);
        Checks.parishFault("\u0000", 0, 0);
    }

    private static void parishes() {
        Checks c = new Checks();
        c.tell("parish 3 1;well 0 4 30;well 1 2 0;well 2 9 12;farm 0 2 3;farm 1 1 1;kin 0 1;kin 1 2");
        c.due(3, "parish").due(0, "count", 12).due(3, "count", 0).due(1, "count", 1);
        c.due(4, "well", 0, 0).due(30, "well", 0, 1).due(4, "well", 0, 2).due(0, "well", 0, 3);
        c.due(9, "well", 2, 0).due(12, "well", 2, 1).due(9, "well", 2, 2).due(2, "well", 2, 3);
        c.due(2, "farm", 0, 0).due(3, "farm", 0, 1).due(1, "farm", 2, 0).due(2, "farm", 2, 1);
        c.due(2, "farm", 0, 3).due(5, "farm", 1, 3).due(2, "farm", 2, 3);
        // A PARISH takes away NOTES and what can be UNDONE; the RULE IN FORCE and x stay.
        c.rule("wed 1").due(-1, "force", 0).due(0, "seed", 7).due(1, "note", 0, 0, 30);
        c.due(1, "year").due(1, "count", 10);
        // A FAULT leaves all as it was, but for the TAPE, which is empty then.
        c.tell("parish 2").due(-2 - (1 + 8 * 8), "parish").due(0, "count", 12).due(3, "count", 0).due(1, "count", 9)
                .due(1, "count", 10).due(1, "count", 4).due(213, "lie");
        c.parish("  parish2   9  ;well 1 30 60;well 1 1 0 ; farm 0 5 9;farm 0 0 0;kin 1 0;kin 0 1;kin 1 0  ");
        c.due(2, "count", 0).due(9, "count", 1).due(0, "count", 9).due(0, "count", 10).due(0, "count", 3)
                .due(7, "count", 11).due(0, "count", 4).due(12, "lie");
        c.due(1, "well", 1, 0).due(0, "well", 1, 1).due(1, "well", 1, 2).due(9, "well", 0, 0).due(0, "well", 0, 1)
                .due(0, "farm", 0, 0).due(0, "farm", 0, 1).due(2, "farm", 0, 3).due(1, "farm", 1, 3);
        c.parish("parish 00007 00000").due(7, "count", 0).due(1234567, "lie").due(0, "farm", 6, 3);
    }

    private static void parishFaults() {
        Checks.parishFault("", 0, 0);
        Checks.parishFault("   ", 3, 0);
        Checks.parishFault("parish", 6, 0);
        Checks.parishFault("parish  ", 8, 0);
        Checks.parishFault("parish 1 0", 7, 1);
        Checks.parishFault("parish 8 0", 7, 1);
        Checks.parishFault("parish 9 x", 7, 1);
        Checks.parishFault("parish 2 10", 9, 1);
        Checks.parishFault("parish 20", 7, 1);
        Checks.parishFault("parish 000002 0", 7, 1);
        Checks.parishFault("parish -2 0", 7, 0);
        Checks.parishFault("parish kin 0", 7, 0);
        Checks.parishFault("parishs 2 0", 0, 0);
        Checks.parishFault("paris 2 0", 0, 0);
        Checks.parishFault("Parish 2 0", 0, 0);
        Checks.parishFault("wed 1", 0, 0);
        Checks.parishFault("well 0 1 0", 0, 4);
        Checks.parishFault(" kin 0 1", 1, 4);
        Checks.parishFault("farm x", 0, 4);
        Checks.parishFault("parish 2 0;parish 2 0", 11, 4);
        Checks.parishFault("parish 2 0;well 2 1 0", 16, 1);
        Checks.parishFault("parish 2 0;well 0 0 0", 18, 1);
        Checks.parishFault("parish 2 0;well 0 31 0", 18, 1);
        Checks.parishFault("parish 2 0;well 0 1 61", 20, 1);
        Checks.parishFault("parish 2 0;well 0 1", 19, 0);
        Checks.parishFault("parish 2 0;farm 2 0 0", 16, 1);
        Checks.parishFault("parish 2 0;farm 0 6 0", 18, 1);
        Checks.parishFault("parish 2 0;farm 0 0 10", 20, 1);
        Checks.parishFault("parish 2 0;kin 0 2", 17, 1);
        Checks.parishFault("parish 2 0;kin 0 0", 17, 1);
        Checks.parishFault("parish 2 0;kin 2 2", 15, 1);
        Checks.parishFault("parish 2 0;kin 1 000001", 17, 1);
        Checks.parishFault("parish 2 0;", 11, 0);
        Checks.parishFault("parish 2 0;;", 11, 0);
        Checks.parishFault("parish 2 0 1", 11, 0);
        Checks.parishFault("parish 2 0 1234567", 11, 0);
        Checks.parishFault("parish 2 0,kin 0 1", 10, 0);
        Checks.parishFault("parish 2\t0", 8, 0);
    }

    private static void clausesOfParish() {
        String forty = "parish 2 0" + ";kin0 1".repeat(39);
        new Checks().tell(forty).due(2, "parish");
        Checks.parishFault(forty + "; kin 0 1", forty.length() + 2, 4);
        Checks.parishFault(forty + ";kin 9", forty.length() + 1, 4);
        Checks.parishFault(forty + ";parish 2 0", forty.length() + 1, 4);
        Checks.parishFault(forty + ";x", forty.length() + 1, 0);
        Checks.parishFault(forty + ";", forty.length() + 1, 0);
    }

    /** As many signs, as long words and numbers as a TAPE can have. */
    private static void fullTapes() {
        for (String piece : new String[] {";", "<", "a", "9", "\u00ff", "<=", "1+", "+1"}) {
            String full = piece.repeat(400).substring(0, 400);
            Checks.parishFault(full, 0, 0);
            Checks.ruleFault(full, 0, 0);
        }
        Checks.parishFault(" ".repeat(400), 400, 0);
        Checks.ruleFault("wed" + " ".repeat(397), 400, 0);
        Checks.ruleFault("wed " + "9".repeat(396), 4, 1);
        Checks.ruleFault("wed 1 if " + "[".repeat(391), 19, 2);
        Checks.ruleFault("wed " + "1+".repeat(198), 4 + 120, 3);
        new Checks().tell("parish 2 0" + " ".repeat(390)).due(2, "parish");
        new Checks().tell(" ".repeat(390) + "parish 2 0").due(2, "parish");
        new Checks().tell(" ".repeat(395) + "wed 1").due(0, "rule");
    }

    private static void ruleNumbers() {
        Checks c = new Checks();
        for (int i = 0; i < 6; i++) {
            c.tell("wed " + i).due(i, "rule").due(i + 1, "count", 2).due(0, "count", 12);
            if (i == 2) {
                c.tell("wed").due(-2 - (1 + 8 * 3), "rule").due(3, "count", 2).due(0, "count", 12);
            }
        }
        c.tell("wed 1").due(-1, "rule").due(5, "count", 12).due(6, "count", 2);
        c.due(0, "end", 0).due(-1, "rule");
        // A faulty text must not spoil the rules there are.
        c = new Checks().parish(WED_ONE).rule("wed 1");
        c.tell("wed 0;x").due(-2 - (1 + 8 * 6), "rule").due(-1, "force", 0).due(1, "year");
    }

    private static void ruleFaults() {
        Checks.ruleFault("", 0, 0);
        Checks.ruleFault("wed", 3, 0);
        Checks.ruleFault("weds 1", 0, 0);
        Checks.ruleFault("parish 2 0", 0, 0);
        Checks.ruleFault("wed x", 4, 0);
        Checks.ruleFault("wed if", 4, 0);
        Checks.ruleFault("wed not", 4, 0);
        Checks.ruleFault("wed -1", 4, 0);
        Checks.ruleFault("wed [1]", 4, 0);
        Checks.ruleFault("wed 123456", 4, 1);
        Checks.ruleFault("wed 1;", 6, 0);
        Checks.ruleFault("wed 1 2", 6, 0);
        Checks.ruleFault("wed 1 234567", 6, 0);
        Checks.ruleFault("wed 1 < 2", 6, 0);
        Checks.ruleFault("wed 5 %", 7, 0);
        Checks.ruleFault("wed 1 + * 2", 8, 0);
        Checks.ruleFault("wed 1 when 1 < 2", 6, 0);
        Checks.ruleFault("wed 1 if", 8, 0);
        Checks.ruleFault("wed 1 if 1", 10, 0);
        Checks.ruleFault("wed 1 if 1 ! 2", 11, 0);
        Checks.ruleFault("wed 1 if 1 < = 2", 13, 0);
        Checks.ruleFault("wed 1 if 1 =< 2", 12, 0);
        Checks.ruleFault("wed 1 if 1 < 2 < 3", 15, 0);
        Checks.ruleFault("wed 1 if home = 1]", 17, 0);
        Checks.ruleFault("wed 1 if [home = 1", 18, 0);
        Checks.ruleFault("wed 1 if [home] = 1", 14, 0);
        Checks.ruleFault("wed 1 if [1<2] = 1", 15, 0);
        Checks.ruleFault("wed 1 if [1<2;wed 1", 13, 0);
        Checks.ruleFault("wed 1 if 1<2 and", 16, 0);
        Checks.ruleFault("wed 1 if 1<2 or or 1<2", 16, 0);
        Checks.ruleFault("wed 1 if 1<2 not 1<2", 13, 0);
        Checks.ruleFault("wed 1 if not", 12, 0);
        Checks.ruleFault("wed 1 if []", 10, 0);
        Checks.ruleFault("wed 1 if 1<2 if 1<2", 13, 0);
        Checks.ruleFault("wed wells", 4, 0);
        Checks.ruleFault("wed homedry", 4, 0);
        Checks.ruleFault("wedz 1", 0, 0);
        Checks.ruleFault("zwed 1", 0, 0);
        Checks.ruleFault("wed 1 if 1<=", 12, 0);
        Checks.ruleFault("wed 1 if 1>", 11, 0);
        // No word can stand where a SIGN is due, nor behind a SUM but if.
        for (String word : new String[] {"parish", "well", "farm", "kin", "wed", "if", "or", "and", "not", "bride", "year"}) {
            Checks.ruleFault("wed 1 if 1 " + word + " 2", 11, 0);
            if (!word.equals("if")) {
                Checks.ruleFault("wed 1 " + word + " 2", 6, 0);
            }
        }
    }

    private static void deepTests() {
        new Checks().tell("wed 1 if " + "[".repeat(10) + "1<2" + "]".repeat(10)).due(0, "rule");
        new Checks().tell("wed 1 if " + "not ".repeat(10) + "1<2").due(0, "rule");
        new Checks().tell("wed 1 if " + "not[".repeat(5) + "1<2" + "]".repeat(5) + " and " + "[not ".repeat(5) + "1<2"
                + "]".repeat(5)).due(0, "rule");
        Checks.ruleFault("wed 1 if " + "[".repeat(11) + "1<2" + "]".repeat(11), 9 + 10, 2);
        Checks.ruleFault("wed 1 if " + "not ".repeat(11) + "1<2", 9 + 40, 2);
        Checks.ruleFault("wed 1 if " + "not[".repeat(5) + "  not x", 9 + 20 + 2, 2);
        Checks.ruleFault("wed 1 if " + "[".repeat(10) + "x", 9 + 10, 0);
        // As deep as 60 VALUES and FACTS go with all that can be held back on each level.
        String level = "1>2 or 1<2 and [";
        new Checks().parish(WED_ONE).rule("wed 1 if " + level.repeat(9) + "1<2" + "]".repeat(9)).due(-1, "force", 0)
                .due(1, "year");
    }

    private static void manyValues() {
        String ones = "1+".repeat(59);
        new Checks().tell("wed " + ones + "1").due(0, "rule");
        Checks.ruleFault("wed " + ones + "1+ 1", 4 + 118 + 3, 3);
        Checks.ruleFault("wed " + ones + "1+ home", 4 + 118 + 3, 3);
        Checks.ruleFault("wed " + ones + "1+ 123456", 4 + 118 + 3, 1);
        Checks.ruleFault("wed " + ones + "1+ well", 4 + 118 + 3, 0);
        Checks.ruleFault("wed " + ones + "1;wed 1", 4 + 118 + 6, 3);
        // A FACT counts at its SIGN, over all CLAUSES.
        new Checks().tell("wed 1 if " + "1+".repeat(56) + "1=1").due(0, "rule");
        Checks.ruleFault("wed 1 if " + "1+".repeat(57) + "1=1", 9 + 114 + 2, 3);
        Checks.ruleFault("wed 1 if " + "1+".repeat(58) + "1 =1", 9 + 116 + 2, 3);
        Checks.ruleFault("wed 1 if " + "1+".repeat(58) + "1 !1", 9 + 116 + 2, 0);
        String facts = "wed 1 if 1<1;".repeat(11);
        Checks.ruleFault(facts + "wed 1 if 1<1 or " + "1<1 or ".repeat(4) + "1<1", facts.length() + 16 + 7 * 4, 3);
    }

    private static void manyClauses() {
        String twelve = "wed 1" + ";wed 1".repeat(11);
        new Checks().tell(twelve).due(0, "rule");
        Checks.ruleFault(twelve + "; wed 1", twelve.length() + 2, 4);
        Checks.ruleFault(twelve + ";wed", twelve.length() + 1, 4);
        Checks.ruleFault(twelve + ";x", twelve.length() + 1, 0);
        Checks.ruleFault(twelve + ";", twelve.length() + 1, 0);
    }

    /** A RULE weds just if its SUM is above 0. */
    private static void holds(boolean want, String rule) {
        Checks c = new Checks().parish(WED_ONE).rule(rule).due(-1, "force", 0);
        Checks.check("year by " + rule, c.call("year"), want ? 1 : -2);
    }

    private static void same(String one, String other) {
        holds(true, "wed 1 if " + one + " = " + other);
        holds(false, "wed 1 if not " + one + " = " + other);
    }

    private static void sums() {
        same("7-2-1", "4");
        same("2+3*4", "14");
        same("2*3+4*5-6", "20");
        same("10-2*3-1", "3");
        same("7/2*2", "6");
        same("7%4*2", "6");
        same("100/7%5", "4");
        same("2*7/4", "3");
        same("5/0", "0");
        same("5%0", "0");
        same("5/0+5%0+1", "1");
        same("00012", "12");
        holds(true, "wed 0-7/2+4");
        holds(false, "wed 0-7/2+3");
        holds(false, "wed 0-5");
        // 99999 five times is below 0 in 64 bits, and odd.
        String wrapped = "99999*99999*99999*99999*99999";
        holds(true, "wed 1 if " + wrapped + "<0");
        holds(true, "wed 1 if " + wrapped + "/2*2>" + wrapped);
        holds(true, "wed 1 if " + wrapped + "%2=0-1");
        holds(true, "wed1if1<2");
        holds(true, "  wed  1  if  1  <  2  ");
    }

    private static void words() {
        // FARMS 1 and 3 alone CAN WED, behind a WEDDING of 0 and 1 and two dry YEARS.
        String parish = "parish 4 0;well 0 9 30;well 1 9 0;well 2 1 5;well 3 8 12;farm 0 1 1;farm 1 2 4;farm 2 1 0;"
                + "farm 3 3 3;kin 0 1;kin 1 3";
        String[] facts = {"bride=1", "groom=3", "hers=0", "his=3", "sweet=20", "sour=12", "full=5", "low=2", "heirs=6",
            "home=2", "dry=1", "year=2"};
        for (String fact : facts) {
            Checks c = new Checks().parish(parish).due(2, "wed", 0, 1).rule("wed 0").rule("wed 1 if " + fact);
            c.due(-1, "force", 0).due(-2, "year").due(-2, "year").due(0, "force", 1);
            Checks.check("year by " + fact, c.call("year"), 8 * 1 + 3);
        }
    }

    private static void signs() {
        String[] signs = {"<", "<=", "=", ">=", ">"};
        for (int i = 0; i < 5; i++) {
            holds(i <= 1, "wed 1 if 1" + signs[i] + "2");
            holds(i >= 1 && i <= 3, "wed 1 if 2 " + signs[i] + " 2");
            holds(i >= 3, "wed 1 if 3 " + signs[i] + "2");
        }
    }

    private static void tests() {
        holds(true, "wed 1 if 1<2 or 1>2 and 1>2");
        holds(true, "wed 1 if 1>2 and 1>2 or 1<2");
        holds(false, "wed 1 if [1<2 or 1>2] and 1>2");
        holds(false, "wed 1 if not 1<2 and 1>2");
        holds(true, "wed 1 if not [1<2 and 1>2]");
        holds(true, "wed 1 if not 1>2 and not not 1<2");
        holds(true, "wed 1 if not 1<2 or 1<2");
        holds(false, "wed 1 if not [1<2 or 1<2]");
        holds(true, "wed 1 if 1>2 or 1>2 or 1<2 and 1<2 or 1>2");
        // Whatever the SIGNS are of which two FACTS are made.
        String[] so = {"1<2", "1<=2", "2<=2", "2=2", "2>=2", "2>=1", "2>1"};
        for (String one : so) {
            for (String other : so) {
                holds(true, "wed 1 if " + one + " and " + other);
                holds(true, "wed 1 if " + one + " or " + other);
                holds(false, "wed 1 if not " + one + " or not " + other);
                holds(false, "wed 1 if " + one + " and not " + other);
            }
        }
    }

    private static void firstClauseThatHolds() {
        holds(false, "wed 0;wed 1");
        holds(true, "wed 0 if 1>2;wed 1");
        holds(true, "wed 0 if 1>2;wed 2 if 1<2;wed 0");
        holds(false, "wed 5 if 1>2");
        holds(false, "wed 5 if 1>2;wed 3-3 if 1<2;wed 9");
    }

    private static void force() {
        Checks c = new Checks().rule("wed 1").rule("wed 2");
        c.due(-2, "force", 2).due(-2, "force", -2).due(-1, "count", 3).due(-1, "force", 1).due(1, "force", 0)
                .due(0, "count", 3).due(0, "force", -1).due(-1, "force", -1).due(-1, "count", 3);
    }
}

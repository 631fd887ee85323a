/** Promises 16 to 21: by WEDDINGS alone. */
public final class LiesTest {
    public static void main(String[] args) {
        path();
        otherLies();
        apart();
        star();
        seven();
        rings();
        asKinChange();
        eachKinAfterEach();
        Checks.close("LiesTest");
    }

    private static void path() {
        Checks c = new Checks().parish("parish 3 1;kin 1 2;kin 0 1;farm 1 1 0");
        c.due(0, "fewest", 123).due(1, "fewest", 213).due(1, "fewest", 132).due(2, "fewest", 231).due(2, "fewest", 312)
                .due(3, "fewest", 321);
        int[][] steps = {{0, 1}, {1, 2}, {0, 1}};
        for (int i = 0; i < 3; i++) {
            c.due(steps[i][0], "step", 321, i, 0).due(steps[i][1], "step", 321, i, 1);
        }
        c.due(-2, "step", 321, 3, 0).due(-2, "step", 123, 0, 1).due(-2, "step", 213, 1000000, 0);
        c.due(-1, "step", 321, -1, 0).due(-1, "step", 321, 0, 2).due(-1, "step", 321, 0, -1).due(-1, "step", 322, 0, 0);
        int[] lies = {1, 3, 5, 6, 6};
        for (int n = 0; n < lies.length; n++) {
            c.due(lies[n], "lies", n);
        }
        c.due(6, "lies", 30).due(-1, "lies", 31).due(-1, "lies", -1);
        c.due(3, "farthest", 0).due(321, "farthest", 1).due(-1, "farthest", 2).due(-1, "farthest", -1);
        c.due(0, "comes", 0, 0).due(1, "comes", 0, 1).due(2, "comes", 0, 2).due(2, "comes", 2, 0).due(1, "comes", 1, 2);
        c.due(-1, "comes", 3, 0).due(-1, "comes", 0, 3).due(-1, "comes", -1, 0).due(-1, "comes", 0, -1);
        // Nothing changed.
        c.due(123, "lie").due(0, "count", 10).due(0, "farm", 1, 1);
    }

    private static void otherLies() {
        Checks c = new Checks().parish("parish 3 1;kin 1 2;kin 0 1");
        int[] wrong = {0, 1, 12, 122, 121, 211, 124, 125, 129, 192, 812, 120, 103, 23, 1230, 1234, -123,
            Integer.MAX_VALUE, Integer.MIN_VALUE, 333};
        for (int lie : wrong) {
            c.due(-1, "fewest", lie).due(-1, "step", lie, 0, 0);
        }
        // From another LIE than home.
        c.due(1, "wed", 0, 1).due(213, "lie").due(0, "fewest", 213).due(1, "fewest", 123).due(3, "fewest", 312)
                .due(2, "fewest", 132);
        c.due(3, "farthest", 0).due(312, "farthest", 1).due(0, "step", 132, 0, 0).due(1, "step", 132, 0, 1)
                .due(1, "step", 132, 1, 0).due(2, "step", 132, 1, 1).due(0, "comes", 0, 1).due(1, "comes", 0, 2)
                .due(2, "comes", 1, 2);
    }

    private static void apart() {
        Checks c = new Checks().parish("parish 4 0;kin 0 2;kin 1 3");
        c.due(1, "fewest", 3214).due(2, "fewest", 3412).due(-2, "fewest", 2134).due(-2, "step", 2134, 0, 0);
        c.due(0, "step", 3412, 0, 0).due(2, "step", 3412, 0, 1).due(1, "step", 3412, 1, 0).due(3, "step", 3412, 1, 1);
        c.due(4, "lies", 30).due(3, "lies", 1).due(2, "farthest", 0).due(3412, "farthest", 1);
        c.due(-2, "comes", 0, 1).due(-2, "comes", 3, 0).due(1, "comes", 3, 1);
        // A WELL comes further from each FARM that it has come to, not from the last one alone.
        new Checks().parish("parish 4 0;kin 0 1;kin 0 2;kin 1 3").due(2, "comes", 0, 3).due(3, "comes", 2, 3)
                .due(3, "comes", 3, 2).due(2, "comes", 1, 2).due(1, "comes", 3, 1);
        c = new Checks().parish("parish 2 0").due(-2, "fewest", 21).due(0, "fewest", 12).due(1, "lies", 30)
                .due(0, "farthest", 0).due(12, "farthest", 1).due(-2, "comes", 0, 1).due(0, "comes", 1, 1);
    }

    private static void star() {
        // All KIN: of several farthest the least number.
        Checks c = new Checks().parish("parish 3 0;kin 0 1;kin 1 2;kin 2 0").due(2, "farthest", 0).due(231, "farthest", 1)
                .due(4, "lies", 1);
        // Two ways of two WEDDINGS to 231: 0 1 then 1 2 is the first.
        c.due(0, "step", 231, 0, 0).due(1, "step", 231, 0, 1).due(1, "step", 231, 1, 0).due(2, "step", 231, 1, 1);
        // 0 1 then 0 2 is ahead of 0 1 then 1 2 where both lead there.
        c.due(0, "step", 312, 0, 0).due(1, "step", 312, 0, 1).due(0, "step", 312, 1, 0).due(2, "step", 312, 1, 1);
    }

    private static void seven() {
        Checks c = new Checks().parish("parish 7 0;kin 0 1;kin 1 2;kin 2 3;kin 3 4;kin 4 5;kin 5 6");
        c.due(21, "farthest", 0).due(7654321, "farthest", 1).due(21, "fewest", 7654321).due(5040, "lies", 21)
                .due(5039, "lies", 20).due(7, "lies", 1).due(6, "comes", 0, 6);
        c.due(0, "step", 7654321, 0, 0).due(0, "step", 7654321, 20, 0).due(-2, "step", 7654321, 21, 0);
        c = new Checks().parish("parish 7 0;kin 0 1;kin 0 2;kin 0 3;kin 0 4;kin 0 5;kin 0 6");
        c.due(9, "farthest", 0).due(1325476, "farthest", 1).due(7, "lies", 1);
    }

    private static void rings() {
        Checks c = new Checks().parish("parish 5 0;kin 0 1;kin 1 2;kin 3 4").due(0, "rings", 0).due(0, "rings", 1)
                .due(-1, "rings", 2).due(-1, "rings", -1);
        c.due(3, "wed", 0, 1).due(1, "rings", 0).due(1, "rings", 1).due(2, "wed", 1, 2).due(1, "rings", 0)
                .due(2, "rings", 1).due(0, "wed", 3, 4).due(2, "rings", 0).due(3, "rings", 1).due(23154, "lie");
    }

    /** The table of one PARISH must not serve another one. */
    private static void asKinChange() {
        Checks c = new Checks().parish("parish 3 0;kin 0 1").due(2, "lies", 30).due(0, "image", 0);
        c.parish("parish 3 0;kin 0 1;kin 0 2").due(6, "lies", 30).due(0, "back", 0).due(2, "lies", 30);
        c.parish("parish 4 0;kin 0 1").due(2, "lies", 30).due(-2, "fewest", 1243).due(1, "fewest", 2134);
        // Nor may more FARMS leave anything behind for fewer ones.
        c.parish("parish 7 0;kin 0 1;kin 1 2;kin 2 3;kin 3 4;kin 4 5;kin 5 6").due(5040, "lies", 30);
        c.parish("parish 3 0;kin 0 1;kin 1 2").due(3, "lies", 1).due(5, "lies", 2).due(6, "lies", 30)
                .due(3, "farthest", 0).due(321, "farthest", 1).due(3, "fewest", 321).due(2, "fewest", 231);
    }

    private static void eachKinAfterEach() {
        int[] swapped = {213, 321, 132};
        for (int before = 0; before < 8; before++) {
            for (int after = 0; after < 8; after++) {
                Checks c = new Checks().parish(threeWith(before)).due(Integer.bitCount(before) + 1, "lies", 1);
                c.parish(threeWith(after)).due(Integer.bitCount(after) + 1, "lies", 1);
                for (int i = 0; i < 3; i++) {
                    Checks.check("kin " + after + " behind " + before, c.call("fewest", swapped[i]) == 1 ? 1 : 0,
                            after >> i & 1);
                }
            }
        }
    }

    private static String threeWith(int kin) {
        String[] told = {";kin 0 1", ";kin 0 2", ";kin 1 2"};
        StringBuilder s = new StringBuilder("parish 3 0");
        for (int i = 0; i < 3; i++) {
            s.append((kin >> i & 1) != 0 ? told[i] : "");
        }
        return s.toString();
    }
}

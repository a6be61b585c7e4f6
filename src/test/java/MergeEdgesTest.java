/** The edges of D, want, d and s, of the nearest pair, of the number of tops, and of the least tree (19 to 21). */
public final class MergeEdgesTest {
    /** Two points with D = 6. */
    private static final String TWO = "sink(0, 0) = 0; sink(4, 2) = 1; ";
    /** Joint 8 has U from 1 to 5, V = 1 and the time 3. */
    private static final String ALONG_U = "sink(0, 2) = 0; sink(4, 0) = 1; joins(0, 1) = 8; ";
    /** Joint 8 has U = 3, V from -1 to 3 and the time 3. */
    private static final String ALONG_V = TWO + "joins(0, 1) = 8; ";
    private static final String SIX = "sink(0, 0) = 0; sink(10, 0) = 1; sink(20, 0) = 2; sink(30, 0) = 3; "
        + "sink(40, 0) = 4; sink(50, 0) = 5; ";
    private static final String EIGHT = SIX + "sink(60, 0) = 6; sink(60, 60) = 7; ";

    public static void main(String[] args) {
        wantUpward();
        wantDownward();
        wantOfIntervals();
        gapsOfPoints();
        gapsOfRegions();
        noGap();
        nearest();
        nearestTies();
        tops();
        least();
        leastCounts();
        Script.finish();
    }

    /** Both offsets and the skew as whole numbers; then s and the wires, in a tree and as they would be. */
    private static void wires(int offsetA, int offsetB, int skew, String s, String wireA, String wireB) {
        String setUp = TWO + "sets(0, 0, " + offsetA + ") = 0; sets(1, 0, " + offsetB + ") = 0; skew(" + skew + ") = 0; ";
        String rule = "d, with the offsets " + offsetA + " and " + offsetB + " and the skew " + skew;
        Script.check(rule, setUp + "would(0, 1, 0) = " + s + "; would(0, 1, 2) = " + wireA + "; would(0, 1, 3) = " + wireB
            + "; would(1, 0, 0) = " + s + "; would(1, 0, 2) = " + wireB + "; would(1, 0, 3) = " + wireA
            + "; joins(0, 1) = 8; node(0, 9) = " + wireA + "; node(1, 9) = " + wireB + "; node(8, 10) = " + s
            + "; back() = 5; joins(1, 0) = 8; node(0, 9) = " + wireA + "; node(1, 9) = " + wireB);
    }

    private static void wantUpward() {
        wires(0, 0, 0, "6u", "3u", "3u");
        wires(0, 5, 0, "6u", "5.5u", "0.5u");
        // want is D, and then beyond it.
        wires(0, 6, 0, "6u", "6u", "0");
        wires(0, 7, 0, "7u", "7u", "0");
        // low is D, and then less or more than D.
        wires(0, 7, 1, "6u", "6u", "0");
        wires(0, 7, 2, "6u", "6u", "0");
        wires(0, 8, 1, "7u", "7u", "0");
        wires(0, 99, 0, "99u", "99u", "0");
        wires(0, 99, 92, "7u", "7u", "0");
        wires(0, 99, 93, "6u", "6u", "0");
        wires(0, 99, 94, "6u", "6u", "0");
        wires(0, 99, 99, "6u", "6u", "0");
        // From -D to D, the skew does not matter.
        wires(0, 5, 99, "6u", "5.5u", "0.5u");
        wires(0, 6, 99, "6u", "6u", "0");
        wires(99, 99, 0, "6u", "3u", "3u");
    }

    private static void wantDownward() {
        wires(5, 0, 0, "6u", "0.5u", "5.5u");
        wires(6, 0, 0, "6u", "0", "6u");
        wires(7, 0, 0, "7u", "0", "7u");
        wires(7, 0, 1, "6u", "0", "6u");
        wires(7, 0, 2, "6u", "0", "6u");
        wires(8, 0, 1, "7u", "0", "7u");
        wires(99, 0, 0, "99u", "0", "99u");
        wires(99, 0, 92, "7u", "0", "7u");
        wires(99, 0, 93, "6u", "0", "6u");
        wires(99, 0, 94, "6u", "0", "6u");
        wires(99, 0, 99, "6u", "0", "6u");
        wires(5, 0, 99, "6u", "0.5u", "5.5u");
        wires(6, 0, 99, "6u", "0", "6u");
    }

    /** With the skew 10, joint 8 stands at U = 6, V = 2, early 10 and late 20, so that want counts from 15. */
    private static void wantOfIntervals() {
        String late = TWO + "sets(1, 0, 20) = 0; skew(10) = 0; joins(0, 1) = 8; node(8, 7) = 10u; node(8, 8) = 20u; ";
        // D is 4 to the sink (8, 2); want is then its offset minus 15.
        interval(late, 10, "4u", "0", "4u");
        interval(late, 11, "4u", "0", "4u");
        interval(late, 12, "4u", "0.5u", "3.5u");
        interval(late, 19, "4u", "4u", "0");
        // want is beyond D, but low is not: no detour.
        interval(late, 20, "4u", "4u", "0");
        interval(late, 24, "4u", "4u", "0");
        // low is 25 - 10 - 10: a detour of 1 more than D.
        interval(late, 25, "5u", "5u", "0");
        interval(late, 99, "79u", "79u", "0");
        // high is 10 + 5 - 20.
        interval(late, 6, "4u", "0", "4u");
        interval(late, 5, "5u", "0", "5u");
        interval(late, 0, "10u", "0", "10u");
    }

    private static void interval(String late, int offset, String s, String wireA, String wireB) {
        Script.check("d, with early and late apart and the offset " + offset, late + "sink(8, 2) = 2; sets(2, 0, " + offset
            + ") = 0; would(8, 2, 0) = " + s + "; would(8, 2, 2) = " + wireA + "; would(8, 2, 3) = " + wireB
            + "; would(2, 8, 0) = " + s + "; would(2, 8, 2) = " + wireB + "; would(2, 8, 3) = " + wireA);
    }

    private static void gapsOfPoints() {
        String rule = "D of two points: the greatest difference";
        String middle = "sink(20, 20) = 0; ";
        gap(rule + ", U upward", middle + "sink(23, 22) = 1; ", 0, 1, 5, 5);
        gap(rule + ", U downward", middle + "sink(18, 17) = 1; ", 0, 1, 5, 5);
        gap(rule + ", V upward", middle + "sink(23, 18) = 1; ", 0, 1, 5, 5);
        gap(rule + ", V downward", middle + "sink(18, 23) = 1; ", 0, 1, 5, 5);
        gap(rule + ", the least", middle + "sink(20, 21) = 1; ", 0, 1, 1, 1);
        gap(rule + ", the greatest of U", "sink(0, 0) = 0; sink(63, 63) = 1; ", 0, 1, 126, 126);
        gap(rule + ", the greatest of V", "sink(63, 0) = 0; sink(0, 63) = 1; ", 0, 1, 126, 126);
    }

    private static void gap(String rule, String setUp, int a, int b, int s, int gap) {
        for (String pair : new String[] {a + ", " + b, b + ", " + a}) {
            Edges.asked(rule, setUp, "would(" + pair + ", 0)", s + "u");
            Edges.asked(rule, setUp, "would(" + pair + ", 1)", (s - gap) + "u");
        }
    }

    /** The sink 2 is 3 earlier than joint 8, so that s is at least 3. */
    private static void gapsOfRegions() {
        String rule = "D of a region and a point";
        gap(rule + ": within", ALONG_U + "sink(2, 1) = 2; ", 8, 2, 3, 0);
        gap(rule + ": at U2", ALONG_U + "sink(3, 2) = 2; ", 8, 2, 3, 0);
        gap(rule + ": beyond U2", ALONG_U + "sink(3, 3) = 2; ", 8, 2, 3, 1);
        gap(rule + ": at U1", ALONG_U + "sink(1, 0) = 2; ", 8, 2, 3, 0);
        gap(rule + ": before U1", ALONG_U + "sink(0, 0) = 2; ", 8, 2, 3, 1);
        gap(rule + ": beyond V2", ALONG_U + "sink(3, 0) = 2; ", 8, 2, 3, 2);
        gap(rule + ": before V1", ALONG_U + "sink(1, 2) = 2; ", 8, 2, 3, 2);
        gap(rule + ": at V2", ALONG_V + "sink(3, 0) = 2; ", 8, 2, 3, 0);
        gap(rule + ": a wide V, beyond V2", ALONG_V + "sink(4, 0) = 2; ", 8, 2, 3, 1);
        gap(rule + ": at V1", ALONG_V + "sink(1, 2) = 2; ", 8, 2, 3, 0);
        gap(rule + ": a wide V, before V1", ALONG_V + "sink(0, 2) = 2; ", 8, 2, 3, 1);
        // want is -D, so that there is no detour.
        gap(rule + ": as far as it is early", ALONG_U + "sink(4, 4) = 2; ", 8, 2, 3, 3);
        gap(rule + ": further", ALONG_U + "sink(5, 4) = 2; ", 8, 2, 4, 4);
    }

    /** Regions that cross: 8 has U = 20 and V from -20 to 20, 9 has U from 0 to 40 and V = 0; both have the time 20. */
    private static void noGap() {
        String cross = "sink(0, 0) = 0; sink(20, 0) = 1; sink(0, 20) = 2; sink(20, 20) = 3; joins(0, 3) = 8; joins(1, 2) = 9; ";
        gap("D is 0 if the regions cross", cross, 8, 9, 0, 0);
        Script.check("no wire at all", cross + "joins(8, 9) = 10; node(8, 9) = 0; node(9, 9) = 0; node(10, 10) = 80u; "
            + "node(10, 3) = 20u; node(10, 4) = 20u; node(10, 5) = 0; node(10, 6) = 0; total(2) = 0; total(4) = 0");
        String late = cross + "sets(1, 0, 5) = 0; sets(2, 0, 5) = 0; ";
        gap("want beyond a D of 0", late, 8, 9, 5, 0);
        gap("want beyond a D of 0, within the skew", late + "skew(5) = 0; ", 8, 9, 0, 0);
        gap("want beyond a D of 0, just beyond the skew", late + "skew(4) = 0; ", 8, 9, 1, 0);
    }

    private static void nearest() {
        Edges.asked("19: NONE if there is no top", Edges.EMPTY, "nearest()", "-1");
        Edges.asked("19: NONE if there is one top, a sink", "sink(7, 3) = 0; ", "nearest()", "-1");
        Edges.asked("19: NONE if there is one top, a joint", TWO + "joins(0, 1) = 8; ", "nearest()", "-1");
        Edges.asked("19: the only two tops", TWO, "nearest()", "1");
        Edges.asked("19: two tops, the lesser one first", ALONG_U + "sink(40, 40) = 2; ", "nearest()", "40");
        Edges.asked("19: the greatest answer", EIGHT + "joins(0, 1) = 8; joins(2, 3) = 9; joins(4, 5) = 10; joins(6, 7) = 11; "
            + "joins(8, 9) = 12; joins(10, 11) = 13; ", "nearest()", "205");
    }

    private static void nearestTies() {
        // 1 and 2, 2 and 3, 1 and 4 have the distance 2.
        Edges.asked("of several pairs, the least a, then the least b", "sink(40, 40) = 0; sink(10, 0) = 1; sink(12, 0) = 2; "
            + "sink(14, 0) = 3; sink(8, 0) = 4; ", "nearest()", "18");
        // 1 and 3, 1 and 4, 2 and 3 have it.
        Edges.asked("of several pairs with the least a, the least b", "sink(40, 40) = 0; sink(10, 0) = 1; sink(14, 0) = 2; "
            + "sink(12, 0) = 3; sink(8, 0) = 4; ", "nearest()", "19");
        // 2 and 3 have it, and 0 and 4.
        Edges.asked("the least a goes before the least b", "sink(40, 40) = 0; sink(60, 0) = 1; sink(14, 0) = 2; sink(12, 0) = 3; "
            + "sink(40, 42) = 4; ", "nearest()", "4");
        Edges.asked("s counts, not its order: a later pair that is nearer", "sink(0, 0) = 0; sink(3, 0) = 1; sink(30, 0) = 2; "
            + "sink(32, 0) = 3; ", "nearest()", "35");
    }

    private static void tops() {
        Edges.asked("20: none", Edges.EMPTY, "tops()", "0");
        Edges.asked("20: one sink", "sink(7, 3) = 0; ", "tops()", "1");
        Edges.asked("20: as many as there can be", EIGHT, "tops()", "8");
        Edges.asked("20: one joint over all", EIGHT + "pairs() = 7; ", "tops()", "1");
        Edges.asked("20: sinks and joints", Edges.BUSY, "tops()", "3");
    }

    private static void least() {
        Edges.range("21: what, 0 and 1", Edges.BUSY, "least(%)", 0, 1);
        Edges.refusedEach("21: NO if there is no sink", Edges.EMPTY, "least(%)", Edges.NO, 0, 1);
        Edges.refusedEach("21: NO if there is no sink, but a text", Edges.TEXT_ALONE, "least(%)", Edges.NO, 0, 1);
        Edges.refusedEach("21: NO if there are more than 6", Edges.CROWD, "least(%)", Edges.NO, 0, 1);
        Edges.refusedEach("21: NO if there is no sink any more", "sink(1, 1) = 0; back() = 0; ", "least(%)", Edges.NO, 0, 1);
        Edges.asked("21: one sink has one tree", "sink(7, 3) = 0; ", "least(1)", "1");
        Edges.asked("21: one sink has no wire", "sink(7, 3) = 0; ", "least(0)", "0");
        Edges.refusedEach("21: NO if there are more than 6", SIX + "sink(60, 0) = 6; ", "least(%)", Edges.NO, 0, 1);
        Edges.refusedEach("21: NO if there are more than 6", EIGHT, "least(%)", Edges.NO, 0, 1);
        // Three pairs of 10 each, two of them joined over 20, and the third over 30 more.
        Edges.asked("21: six sinks", SIX, "least(0)", "80u");
        Edges.asked("21: six again, after the seventh was undone", SIX + "sink(60, 0) = 6; back() = 6; ", "least(0)", "80u");
        Script.check("21: refused with seven, and answered anew with six", SIX + """
            least(0) = 80u; sink(60, 0) = 6; least(0) = -3; least(1) = -3; back() = 6; least(0) = 80u; told(1) = 2
            """);
        Edges.asked("21: the joints that there are do not matter", SIX + "joins(0, 5) = 8; joins(1, 4) = 9; ", "least(0)", "80u");
    }

    private static void leastCounts() {
        Edges.asked("21: left and right make no other tree", TWO, "least(1)", "1");
        Edges.asked("21: left and right make no other tree", TWO + "joins(1, 0) = 8; ", "least(1)", "1");
        // Whichever are joined first, three such sinks cost 2 + 1, and four of them 4.
        Edges.asked("21: all three trees of three sinks", "sink(0, 0) = 0; sink(2, 0) = 1; sink(1, 1) = 2; ", "least(1)", "3");
        Edges.asked("21: all fifteen trees of four sinks",
            "sink(2, 1) = 0; sink(1, 2) = 1; sink(1, 0) = 2; sink(0, 1) = 3; ", "least(1)", "15");
        Edges.asked("21: one tree of three", "sink(0, 0) = 0; sink(2, 0) = 1; sink(60, 0) = 2; ", "least(1)", "1");
    }
}

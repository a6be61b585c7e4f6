/** Promises 10 to 21: joints, pairs, grafts, exchanges, and the least tree. */
public final class JointsTest {
    /** Four sinks on a line: tops at distance 2, and ties between them. */
    private static final String LINE = "sink(0, 0) = 0; sink(2, 0) = 1; sink(4, 0) = 2; sink(6, 0) = 3; ";
    /** The corners of a square. */
    private static final String SQUARE = "sink(0, 0) = 0; sink(20, 0) = 1; sink(0, 20) = 2; sink(20, 20) = 3; ";
    private static final String TWO = "sink(0, 0) = 0; sink(4, 2) = 1; ";

    public static void main(String[] args) {
        joins();
        pairs();
        frees();
        cuts();
        grafts();
        bestGrafts();
        exchanges();
        betters();
        nodes();
        skewedNodes();
        intervals();
        wideRegions();
        would();
        nearestAndTops();
        least();
        Script.finish();
    }

    private static void joins() {
        Script.check("promise 10", LINE + """
            joins(1, 0) = 8; node(8, 0) = 1; node(8, 1) = 0; joins(2, 3) = 9; joins(9, 8) = 10; node(10, 0) = 9;
            told(4) = 3; joins(0, 1) = -3; joins(10, 0) = -3; joins(0, 10) = -3;
            joins(0, 0) = -2; joins(10, 10) = -2; joins(0, 11) = -2; joins(4, 0) = -2; joins(-1, 10) = -2;
            joins(10, 15) = -2; joins(2147483647, 10) = -2; told(0) = 7; told(1) = 3; told(9) = 7;
            back() = 6; tops() = 2; told(4) = 2; node(10, 0) = -2; joins(8, 9) = 10
            """);
        Script.check("promise 10, the lowest free number", LINE + """
            joins(0, 1) = 8; joins(2, 3) = 9; cuts(0) = 8; joins(9, 1) = 8; joins(0, 8) = 10; node(8, 0) = 9
            """);
        Script.check("promise 10, all joints", """
            sink(0, 0) = 0; sink(1, 0) = 1; sink(2, 0) = 2; sink(3, 0) = 3; sink(4, 0) = 4; sink(5, 0) = 5;
            sink(6, 0) = 6; sink(7, 0) = 7; joins(0, 1) = 8; joins(8, 2) = 9; joins(9, 3) = 10; joins(10, 4) = 11;
            joins(11, 5) = 12; joins(12, 6) = 13; joins(13, 7) = 14; tops() = 1; told(4) = 7; node(14, 11) = 8;
            joins(14, 0) = -3; joins(14, 15) = -2
            """);
    }

    private static void pairs() {
        Script.check("promise 11", LINE + """
            pairs() = 3; node(8, 0) = 0; node(8, 1) = 1; node(9, 0) = 2; node(9, 1) = 3; node(10, 0) = 8;
            node(10, 1) = 9; tops() = 1; told(9) = 5; pairs() = 0; told(9) = 6; back() = 5; back() = 4; tops() = 4
            """);
        // The nearest pair of tops is 1 and 2; the joint of both is nearer to 3 than to 0.
        Script.check("promise 11, not in the order of numbers", """
            sink(0, 0) = 0; sink(10, 0) = 1; sink(12, 0) = 2; sink(16, 0) = 3; pairs() = 3;
            node(8, 0) = 1; node(8, 1) = 2; node(9, 0) = 3; node(9, 1) = 8; node(10, 0) = 0; node(10, 1) = 9
            """);
        Script.check("promise 11, goes on from the joints there are", LINE + """
            joins(0, 3) = 8; pairs() = 2; node(9, 0) = 1; node(9, 1) = 2; node(10, 0) = 8; node(10, 1) = 9
            """);
        // 0 and 1 are nearer as points, but the offset of 1 asks for a detour of 50.
        Script.check("promise 11, s counts and not the gap", """
            sink(0, 0) = 0; sink(1, 0) = 1; sink(9, 0) = 2; sets(1, 0, 50) = 0; pairs() = 2; node(8, 0) = 0;
            node(8, 1) = 2
            """);
        Script.check("promise 11, the places follow", LINE + "total(1) = -1; pairs() = 3; total(1) = 3u; arrival(3) = 6u");
        Script.check("promise 11, no sink", "pairs() = -3; told(1) = 1; told(9) = 0; sink(5, 5) = 0; pairs() = 0; told(9) = 2");
    }

    private static void frees() {
        Script.check("promise 12", LINE + """
            frees() = 0; told(9) = 5; joins(0, 1) = 8; joins(8, 2) = 9; frees() = 2; told(4) = 0; tops() = 4;
            node(8, 0) = -2; node(0, 2) = -1; node(0, 9) = -1; total(0) = 0; back() = 7; told(4) = 2; node(9, 1) = 2;
            joins(9, 3) = 10
            """);
    }

    private static void cuts() {
        Script.check("promise 13", LINE + """
            joins(0, 1) = 8; joins(2, 8) = 9; joins(9, 3) = 10; cuts(10) = -3; cuts(11) = -2; cuts(4) = -2;
            cuts(-1) = -2; cuts(15) = -2; told(0) = 4; told(1) = 1; told(9) = 7;
            cuts(8) = 9; node(10, 0) = 2; node(2, 2) = 10; node(8, 2) = -1; node(9, 0) = -2; tops() = 2;
            told(4) = 2; cuts(3) = 10; tops() = 3; node(2, 2) = -1; node(3, 2) = -1; cuts(3) = -3;
            cuts(1) = 8; told(4) = 0; tops() = 4; back() = 7; node(8, 1) = 1; back() = 6; node(10, 1) = 3;
            back() = 5; node(9, 0) = 2; node(9, 1) = 8; node(10, 0) = 9
            """);
        Script.check("promise 13, a right child's place", LINE + """
            joins(0, 1) = 8; joins(2, 8) = 9; cuts(0) = 8; node(9, 0) = 2; node(9, 1) = 1; node(1, 2) = 9
            """);
    }

    private static void grafts() {
        Script.check("promise 14", LINE + """
            joins(0, 1) = 8; grafts(2, 1) = 9; node(9, 0) = 1; node(9, 1) = 2; node(8, 0) = 0; node(8, 1) = 9;
            node(9, 2) = 8; tops() = 2; told(9) = 6;
            grafts(2, 0) = -3; grafts(8, 8) = -3; grafts(8, 1) = -3; grafts(8, 9) = -3; grafts(2, -1) = -3;
            grafts(9, 3) = -3; grafts(4, 0) = -2; grafts(0, 4) = -2; grafts(3, 10) = -2; grafts(3, -2) = -2;
            grafts(-1, 0) = -2; grafts(15, -1) = -2; grafts(-1, -1) = -2; told(0) = 7; told(1) = 6; told(9) = 6;
            grafts(3, 8) = 10; node(10, 0) = 8; node(10, 1) = 3; node(10, 2) = -1; tops() = 1; grafts(10, -1) = -3;
            back() = 6; tops() = 2; grafts(8, 3) = 10; node(10, 0) = 3; node(10, 1) = 8;
            back() = 6; back() = 5; node(8, 1) = 1; told(4) = 1
            """);
        Script.check("promise 14, a left child's place", LINE + """
            joins(0, 1) = 8; grafts(2, 0) = 9; node(8, 0) = 9; node(8, 1) = 1; node(9, 0) = 0; node(9, 1) = 2
            """);
    }

    private static void bestGrafts() {
        // The total cost is 33 for 0, 2 + 21 for 1, and 20 + 12 for 8.
        Script.check("promise 14, the best node", """
            sink(0, 0) = 0; sink(20, 0) = 1; joins(0, 1) = 8; sink(22, 0) = 2; grafts(2, -1) = 9;
            node(9, 0) = 1; node(9, 1) = 2; total(0) = 23u; told(9) = 5; back() = 4; told(4) = 1; node(8, 1) = 1
            """);
        Script.check("promise 14, the lowest of several", """
            sink(10, 0) = 0; sink(14, 0) = 1; sink(12, 0) = 2; grafts(2, -1) = 8; node(8, 0) = 0; node(8, 1) = 2;
            sink(5, 5) = 3; told(3) = 4
            """);
        Script.check("promise 14, no node", """
            sink(1, 1) = 0; grafts(0, -1) = -3; grafts(1, -1) = -2; told(9) = 1; sink(2, 2) = 1; grafts(0, -1) = 8;
            node(8, 0) = 1; node(8, 1) = 0; grafts(0, -1) = -3; grafts(8, -1) = -3; told(1) = 3
            """);
    }

    private static void exchanges() {
        // Diagonals cost 40 each, and their regions meet; sides cost 20 each, and 20 more between them.
        Script.check("promise 15", SQUARE + """
            joins(0, 3) = 8; joins(1, 2) = 9; joins(8, 9) = 10; total(0) = 80u; exchanges(3, 1) = -20u; total(0) = 60u;
            node(8, 0) = 0; node(8, 1) = 1; node(9, 0) = 3; node(9, 1) = 2; node(3, 2) = 9; told(9) = 8;
            exchanges(1, 3) = 20u; node(8, 1) = 3; node(9, 0) = 1;
            exchanges(0, 3) = -3; exchanges(0, 8) = -3; exchanges(8, 0) = -3; exchanges(8, 9) = -3;
            exchanges(10, 0) = -3; exchanges(0, 10) = -3; exchanges(0, 0) = -3; exchanges(10, 10) = -3;
            exchanges(0, 4) = -2; exchanges(11, 0) = -2; exchanges(-1, 0) = -2; exchanges(0, 15) = -2;
            told(0) = 4; told(1) = 8; told(9) = 8; back() = 7; node(8, 1) = 1; total(0) = 60u
            """);
        // Wires 2 + 3 + 4 become 2 + 2 + 4, and then 4 + 4 + 2.
        Script.check("promise 15, a sink and a joint", LINE + """
            joins(0, 1) = 8; joins(8, 2) = 9; joins(9, 3) = 10; exchanges(8, 3) = -1u; node(10, 1) = 8; node(9, 0) = 3;
            node(8, 2) = 10; exchanges(0, 3) = 2u; node(9, 0) = 0; node(8, 0) = 3; node(8, 1) = 1
            """);
    }

    private static void betters() {
        Script.check("promise 16", SQUARE + """
            joins(0, 3) = 8; joins(1, 2) = 9; joins(8, 9) = 10; betters() = 20u; total(0) = 60u;
            node(8, 0) = 1; node(8, 1) = 3; node(9, 0) = 0; node(9, 1) = 2; told(9) = 8; betters() = 0; told(9) = 8;
            back() = 7; total(0) = 60u; back() = 6; total(0) = 80u; node(8, 0) = 0
            """);
        Script.check("promise 16, nothing to exchange", """
            betters() = 0; told(9) = 1; sink(1, 1) = 0; betters() = 0; told(9) = 3; back() = 2; told(3) = 1
            """);
    }

    private static void nodes() {
        Script.check("promise 17", TWO + """
            joins(0, 1) = 8; node(8, 0) = 0; node(8, 1) = 1; node(8, 2) = -1; node(8, 3) = 3u; node(8, 4) = 3u;
            node(8, 5) = -1u; node(8, 6) = 3u; node(8, 7) = 3u; node(8, 8) = 3u; node(8, 9) = -1; node(8, 10) = 6u;
            node(8, 11) = 2; node(1, 0) = -1; node(1, 1) = -1; node(1, 2) = 8; node(1, 3) = 6u; node(1, 4) = 6u;
            node(1, 5) = 2u; node(1, 6) = 2u; node(1, 7) = 0; node(1, 8) = 0; node(1, 9) = 3u; node(1, 10) = 0;
            node(1, 11) = 1; node(0, 12) = -2; node(0, -1) = -2; node(2, 0) = -2; node(7, 0) = -2; node(9, 0) = -2;
            node(14, 0) = -2; node(15, 0) = -2; node(-1, 0) = -2; node(-2147483648, 0) = -2; told(0) = 9; told(9) = 3;
            sets(1, 0, 1) = 0; node(0, 9) = 3.5u; node(1, 9) = 2.5u; node(8, 7) = 3.5u; node(8, 8) = 3.5u;
            node(8, 3) = 3.5u; node(8, 4) = 3.5u; node(8, 5) = -0.5u; node(8, 6) = 3.5u
            """);
        // V of (0, 63) is -63: a value below 0 is no error.
        Script.check("promise 17, values below 0", "sink(0, 63) = 0; node(0, 5) = -63u; node(0, 6) = -63u; told(0) = 0; told(1) = 0");
    }

    private static void skewedNodes() {
        Script.check("promise 17, a detour to the left", TWO + """
            sets(1, 0, 20) = 0; joins(0, 1) = 8; node(0, 9) = 20u; node(1, 9) = 0; skew(10) = 0; node(0, 9) = 10u;
            node(1, 9) = 0; node(8, 3) = 6u; node(8, 4) = 6u; node(8, 5) = 2u; node(8, 6) = 2u; node(8, 7) = 10u;
            node(8, 8) = 20u; node(8, 10) = 10u; skew(14) = 10; node(0, 9) = 6u; skew(16) = 14; node(0, 9) = 6u;
            node(8, 7) = 6u
            """);
        Script.check("promise 17, a detour to the right", TWO + """
            sets(1, 0, 20) = 0; joins(1, 0) = 8; skew(10) = 0; node(0, 9) = 10u; node(1, 9) = 0; node(8, 7) = 10u;
            node(8, 8) = 20u; skew(16) = 10; node(0, 9) = 6u; node(1, 9) = 0
            """);
        // Region 8 has V from -1 to 3, so that 2, within it, is 0 away from it in V and 7 in U.
        Script.check("promise 17, the next level", TWO + """
            joins(0, 1) = 8; sink(6, 4) = 2; joins(8, 2) = 9; node(8, 9) = 2u; node(2, 9) = 5u; node(9, 3) = 5u;
            node(9, 4) = 5u; node(9, 5) = -3u; node(9, 6) = 5u; node(9, 7) = 5u; node(9, 10) = 13u; node(9, 11) = 3;
            total(0) = 13u
            """);
    }

    /** With the skew 10, joint 8 has early 10 and late 20 at the point U = 6, V = 2. */
    private static void intervals() {
        String late = TWO + "sets(1, 0, 20) = 0; skew(10) = 0; joins(0, 1) = 8; ";
        Script.check("promise 17, an interval and an early sink", late + """
            sink(10, 0) = 2; joins(8, 2) = 9; node(8, 9) = 0; node(2, 9) = 10u; node(9, 7) = 10u; node(9, 8) = 20u;
            cuts(2) = 9; joins(2, 8) = 9; node(8, 9) = 0; node(2, 9) = 10u; node(9, 7) = 10u; node(9, 8) = 20u
            """);
        Script.check("promise 17, an interval and a late sink", late + """
            sink(10, 0) = 2; sets(2, 0, 60) = 0; joins(2, 8) = 9; node(8, 9) = 40u; node(2, 9) = 0; node(9, 7) = 50u;
            node(9, 8) = 60u; cuts(2) = 9; joins(8, 2) = 9; node(8, 9) = 40u; node(2, 9) = 0; node(9, 7) = 50u;
            node(9, 8) = 60u
            """);
        Script.check("promise 17, an interval and a far sink", late + """
            sink(40, 0) = 2; joins(8, 2) = 9; node(8, 9) = 11.5u; node(2, 9) = 26.5u; node(9, 7) = 21.5u;
            node(9, 8) = 31.5u; cuts(2) = 9; joins(2, 8) = 9; node(8, 9) = 11.5u; node(2, 9) = 26.5u;
            node(9, 7) = 21.5u; node(9, 8) = 31.5u
            """);
    }

    /** Joint 8 has U from 41 to 45 and V = 1, joint 9 has U from 43 to 47 and V = 21; both have the time 3. */
    private static void wideRegions() {
        String wide = """
            sink(20, 22) = 0; sink(24, 20) = 1; joins(0, 1) = 8; sink(31, 13) = 2; sink(35, 11) = 3; joins(2, 3) = 9;
            """;
        Script.check("promise 17, wide regions", wide + """
            node(8, 3) = 41u; node(8, 4) = 45u; node(8, 5) = 1u; node(8, 6) = 1u; node(9, 3) = 43u; node(9, 4) = 47u;
            joins(8, 9) = 10; node(8, 9) = 10u; node(9, 9) = 10u; node(10, 3) = 33u; node(10, 4) = 55u;
            node(10, 5) = 11u; node(10, 6) = 11u; node(10, 7) = 13u; node(10, 10) = 32u
            """);
        Script.check("promise 17, wide regions at different times", wide + """
            sets(0, 0, 2) = 0; sets(1, 0, 2) = 0; joins(8, 9) = 10; node(8, 9) = 9u; node(9, 9) = 11u;
            node(10, 3) = 32u; node(10, 4) = 54u; node(10, 5) = 10u; node(10, 6) = 10u; cuts(8) = 10; joins(9, 8) = 10;
            node(9, 9) = 11u; node(10, 3) = 32u; node(10, 4) = 54u; node(10, 5) = 10u
            """);
        Script.check("promise 18, gaps of wide regions", wide + """
            sink(2, 2) = 4; would(8, 4, 0) = 37u; would(4, 8, 0) = 37u; moves(4, 40, 40) = 76u; would(8, 4, 0) = 35u;
            would(4, 8, 0) = 35u; moves(4, 22, 22) = 36u; would(8, 4, 0) = 3u; would(8, 4, 1) = 2u
            """);
    }

    private static void would() {
        Script.check("promise 18", TWO + """
            would(0, 1, 0) = 6u; would(0, 1, 1) = 0; would(0, 1, 2) = 3u; would(0, 1, 3) = 3u;
            sets(1, 0, 20) = 0; skew(10) = 0; would(0, 1, 0) = 10u; would(0, 1, 1) = 4u; would(0, 1, 2) = 10u;
            would(0, 1, 3) = 0; would(1, 0, 0) = 10u; would(1, 0, 2) = 0; would(1, 0, 3) = 10u;
            would(0, 1, 4) = -2; would(0, 1, -1) = -2; would(0, 0, 0) = -2; would(0, 2, 0) = -2; would(2, 0, 0) = -2;
            would(8, 0, 0) = -2; would(-1, 0, 0) = -2; would(0, 15, 0) = -2; told(0) = 8; told(9) = 4;
            joins(0, 1) = 8; would(0, 1, 0) = 10u; node(0, 9) = 10u
            """);
        // A joint and its own child: the gap from (0, 0) to the region is 3, and 8 is 3 later.
        Script.check("promise 18, whatever nodes", TWO + """
            joins(0, 1) = 8; would(0, 8, 0) = 3u; would(0, 8, 2) = 3u; would(8, 0, 2) = 0; would(8, 0, 3) = 3u;
            node(0, 9) = 3u; node(8, 9) = -1
            """);
    }

    private static void nearestAndTops() {
        Script.check("promise 19 and 20", """
            nearest() = -1; tops() = 0; sink(6, 0) = 0; nearest() = -1; tops() = 1; sink(4, 0) = 1; nearest() = 1;
            tops() = 2; sink(0, 0) = 2; sink(2, 0) = 3; nearest() = 1; moves(0, 7, 0) = 1u; nearest() = 19;
            joins(1, 3) = 8; tops() = 3; nearest() = 40; sets(2, 0, 50) = 0; nearest() = 8; joins(0, 8) = 9; tops() = 2;
            nearest() = 41; joins(9, 2) = 10; nearest() = -1; tops() = 1; told(0) = 0; told(1) = 0; told(9) = 8
            """);
        Script.check("promise 19, the skew spares a detour", """
            sink(0, 0) = 0; sink(1, 0) = 1; sink(9, 0) = 2; sets(1, 0, 50) = 0; nearest() = 2; skew(45) = 0;
            nearest() = 1; would(0, 1, 0) = 5u
            """);
        Script.check("promise 19, the least greater top of several", """
            sink(5, 5) = 0; sink(20, 20) = 1; sink(5, 7) = 2; sink(5, 3) = 3; nearest() = 2
            """);
    }

    private static void least() {
        Script.check("promise 21", "least(0) = -3; least(2) = -2; least(-1) = -2; told(0) = 2; told(1) = 1; "
            + SQUARE + """
            least(0) = 60u; least(1) = 2; joins(0, 3) = 8; least(0) = 60u; told(4) = 1; node(8, 1) = 3; told(9) = 5;
            sink(40, 0) = 4; sink(60, 0) = 5; told(1) = 1; sink(63, 0) = 6; least(0) = -3; least(2) = -2;
            sink(62, 0) = 7; least(1) = -3; told(1) = 3; told(0) = 3
            """);
        Script.check("promise 21, few sinks", """
            sink(5, 5) = 0; least(0) = 0; least(1) = 1; sink(8, 5) = 1; least(0) = 3u; least(1) = 1;
            sets(1, 0, 10) = 0; least(0) = 10u; skew(4) = 0; least(0) = 6u; back() = 3; least(0) = 10u
            """);
        // Whichever pair is joined first, its wires sum to 2, and those of the last joint to 1.
        Script.check("promise 21, three sinks", """
            sink(0, 0) = 0; sink(2, 0) = 1; sink(1, 1) = 2; least(0) = 3u; least(1) = 3
            """);
    }
}

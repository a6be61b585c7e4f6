/** The edges of promises 22 to 25, and of what "The tree" says. */
public final class PlaceEdgesTest {
    private static final String ONE = "sink(7, 3) = 0; ";
    /** Two sinks with D = 6; the joint has U = 3, and V from -1 to 3. */
    private static final String TWO = "sink(0, 0) = 0; sink(4, 2) = 1; joins(0, 1) = 8; ";
    /** The joint has U from 1 to 5, and V = 1. */
    private static final String ALONG_U = "sink(0, 2) = 0; sink(4, 0) = 1; joins(0, 1) = 8; ";
    /** Numbers that name no node of WHOLE, and no sink if 8 and 9 are added. */
    private static final int[] NO_NODE_OF_WHOLE = {Edges.LOWEST, -2, -1, 3, 7, 10, 14, 15, Edges.HIGHEST};

    public static void main(String[] args) {
        nodes();
        wholeOrNot();
        movedIntoRange();
        loops();
        loopCounts();
        loopsOfASmallerTree();
        arrivals();
        delays();
        totals();
        Script.finish();
    }

    private static void nodes() {
        Edges.refusedEach("22: BAD if there is no such node", Edges.WHOLE, "place(%, 0)", Edges.BAD, NO_NODE_OF_WHOLE);
        Edges.refusedEach("22: BAD if there is no such node", Edges.BUSY, "place(%, 2)", Edges.BAD, Edges.NO_NODE_OF_BUSY);
        Edges.range("22: what, 0 to 2, of a sink", Edges.WHOLE, "place(0, %)", 0, 2);
        Edges.range("22: what, 0 to 2, of the top", Edges.WHOLE, "place(9, %)", 0, 2);
        Edges.range("22: the nodes are 0 to 14", Edges.CROWD, "place(%, 1)", 0, 14);
        Edges.asked("22: NONE for the loop of the top, a joint", Edges.WHOLE, "place(9, 2)", "-1");
        Edges.asked("22: NONE for the loop of the top, a sink", ONE, "place(0, 2)", "-1");
        Edges.asked("22: a loop of 0 is not NONE", Edges.WHOLE, "place(2, 2)", "0");
        Edges.asked("22: a loop", Edges.WHOLE, "place(8, 2)", "24u");
        Edges.asked("22: V of a place may be below 0", Edges.WHOLE, "place(0, 1)", "-2u");
        Edges.asked("22: the lowest V of all", "sink(0, 63) = 0; ", "place(0, 1)", "-63u");
        Edges.asked("22: the greatest U of all", "sink(63, 63) = 0; ", "place(0, 0)", "126u");
    }

    private static void wholeOrNot() {
        String rule = "NO if the tree is not whole: ";
        for (String call : new String[] {"place(0, 0)", "place(1, 1)", "place(0, 2)", "arrival(0)", "arrival(1)", "slow(0)",
            "slow(1)"}) {
            Edges.refused(rule + "two tops", Edges.FEW, call, Edges.NO);
            Edges.refused(rule + "three tops", Edges.BUSY, call, Edges.NO);
            Edges.refused(rule + "a sink was added", Edges.WHOLE + "sink(50, 50) = 3; ", call, Edges.NO);
            Edges.refused(rule + "a node was cut off", Edges.WHOLE + "cuts(8) = 9; ", call, Edges.NO);
            Edges.refused(rule + "no joint any more", Edges.WHOLE + "frees() = 2; ", call, Edges.NO);
        }
        Edges.refusedEach(rule + "joints as well", Edges.BUSY, "place(%, 0)", Edges.NO, 8, 10);
        Edges.asked("whole, with one sink", ONE, "place(0, 0)", "10u");
        Edges.asked("whole, with one sink", ONE, "arrival(0)", "10u");
        Edges.asked("whole, with one sink", ONE, "slow(0)", "120uu");
        Edges.asked("whole again, after a sink was undone", Edges.WHOLE + "sink(50, 50) = 3; back() = 6; ", "place(9, 0)", "18u");
        Edges.asked("whole again, after a cut was undone", Edges.WHOLE + "cuts(8) = 9; back() = 6; ", "arrival(0)", "58u");
        Edges.asked("not whole, if the joints were undone", Edges.WHOLE + "back() = 5; ", "total(1)", "-1");
        Script.check("whole by the last joint alone", Edges.FEW + "place(0, 0) = -3; joins(0, 1) = 8; place(0, 0) = 10u");
    }

    private static void movedIntoRange() {
        topPlace(ALONG_U, 0, 0, 1, 1, 1);
        topPlace(ALONG_U, 1, 0, 1, 1, 0);
        topPlace(ALONG_U, 1, 1, 2, 1, 1);
        topPlace(ALONG_U, 2, 1, 3, 1, 0);
        topPlace(ALONG_U, 3, 2, 5, 1, 0);
        topPlace(ALONG_U, 5, 0, 5, 1, 4);
        topPlace(ALONG_U, 3, 3, 5, 1, 1);
        topPlace(ALONG_U, 63, 63, 5, 1, 121);
        topPlace(TWO, 0, 2, 3, -1, 1);
        topPlace(TWO, 1, 2, 3, -1, 0);
        topPlace(TWO, 2, 1, 3, 1, 0);
        topPlace(TWO, 3, 0, 3, 3, 0);
        topPlace(TWO, 4, 0, 3, 3, 1);
        topPlace(TWO, 0, 63, 3, -1, 62);
        topPlace(TWO, 63, 0, 3, 3, 60);
        // From (18, 0), U is moved to 5 and V to 1.
        Script.check("the place of a child is as near as possible to that of its joint", Edges.WHOLE
            + "place(9, 0) = 18u; place(9, 1) = 0; place(8, 0) = 5u; place(8, 1) = 1u; place(2, 0) = 18u; place(2, 1) = 0");
    }

    private static void topPlace(String setUp, int x, int y, int u, int v, int trunk) {
        Script.check("U and V are moved into their ranges by as little as possible, from " + x + ", " + y, setUp
            + "source(" + x + ", " + y + "); place(8, 0) = " + u + "u; place(8, 1) = " + v + "u; total(1) = " + trunk + "u; "
            + "place(0, 2) = 0; place(1, 2) = 0; total(2) = 0; total(4) = 0");
    }

    private static void loops() {
        Script.check("no loop, as long as want is D at most", TWO
            + "sets(1, 0, 6) = 0; node(0, 9) = 6u; place(0, 2) = 0; place(1, 2) = 0; total(2) = 0; total(4) = 0");
        Script.check("a loop, if want is more than D", TWO
            + "sets(1, 0, 7) = 0; node(0, 9) = 7u; place(0, 2) = 1u; place(1, 2) = 0; total(2) = 1u; total(4) = 1");
        Script.check("no loop, if the skew is just enough", TWO
            + "sets(1, 0, 7) = 0; skew(1) = 0; place(0, 2) = 0; total(2) = 0; total(3) = 1u; total(4) = 0");
        Script.check("the longest loop of two sinks", TWO
            + "moves(1, 1, 0) = 5u; sets(1, 0, 99) = 0; place(0, 2) = 98u; total(2) = 98u; total(4) = 1; total(3) = 0");
    }

    private static void loopCounts() {
        Edges.asked("25: no loop at all", ONE, "total(4)", "0");
        Edges.asked("25: one loop", Edges.WHOLE, "total(4)", "1");
        Edges.asked("25: the sum of all loops", Edges.WHOLE, "total(2)", "24u");
        // Each sink waits for the next one: 1 is 20 later than 0, 2 is 20 later than both, and so on.
        Script.check("25: as many loops as joints", """
            sink(0, 0) = 0; sink(1, 0) = 1; sink(2, 0) = 2; sink(3, 0) = 3; sets(1, 0, 20) = 0; sets(2, 0, 40) = 0;
            sets(3, 0, 60) = 0; joins(0, 1) = 8; joins(8, 2) = 9; joins(9, 3) = 10; total(2) = 57u; total(4) = 3;
            total(0) = 60u
            """);
    }

    /** The loops are 19 of 0, and 19, 18, 17 and 16 of 2 to 5, which all wait for 1. */
    private static void loopsOfASmallerTree() {
        String six = """
            sink(0, 0) = 0; sink(1, 0) = 1; sink(2, 0) = 2; sink(3, 0) = 3; sink(4, 0) = 4; sink(5, 0) = 5; sets(1, 0, 20) = 0;
            """;
        String larger = "sink(6, 0) = 6; sink(7, 0) = 7; " + Script.typed("(((((((01)2)3)4)5)6)7)")
            + "builds() = 7; total(4) = 7; back() = 7; back() = 6; back() = 5; clear() = 22; ";
        Script.check("25: each loop counts once, also where a larger tree was undone", six + larger
            + Script.typed("(((((01)2)3)4)5)") + "builds() = 5; total(2) = 89u; total(4) = 5; node(12, 10) = 100u");
    }

    private static void arrivals() {
        Edges.refusedEach("23: BAD if there is no such sink", Edges.WHOLE, "arrival(%)", Edges.BAD, NO_NODE_OF_WHOLE);
        Edges.refusedEach("23: a joint is no sink", Edges.WHOLE, "arrival(%)", Edges.BAD, 8, 9);
        Edges.range("23: the sinks are 0 to 2", Edges.WHOLE, "arrival(%)", 0, 2);
        Edges.range("23: the sinks are 0 to 7", Edges.CROWD, "arrival(%)", 0, 7);
        Edges.asked("23: trunk and wires", Edges.WHOLE, "arrival(0)", "58u");
        Edges.asked("23: trunk, a wire of 0, and offset", Edges.WHOLE, "arrival(2)", "58u");
        Edges.asked("23: a sink at the source", "sink(0, 0) = 0; ", "arrival(0)", "0");
        Edges.asked("23: the latest sink alone", "sink(63, 63) = 0; sets(0, 0, 99) = 0; ", "arrival(0)", "225u");
    }

    private static void delays() {
        Edges.refusedEach("24: BAD if there is no such sink", Edges.WHOLE, "slow(%)", Edges.BAD, NO_NODE_OF_WHOLE);
        Edges.refusedEach("24: a joint is no sink", Edges.WHOLE, "slow(%)", Edges.BAD, 8, 9);
        Edges.range("24: the sinks are 0 to 2", Edges.WHOLE, "slow(%)", 0, 2);
        Edges.range("24: the sinks are 0 to 7", Edges.CROWD, "slow(%)", 0, 7);
        // The trunk: 18 * (18 + 2 * (43 + 3)); the wire of 8: 37 * (37 + 2 * (6 + 2)); that of 0: 3 * (3 + 2).
        Edges.asked("24: the top has the trunk for its wire", Edges.WHOLE, "slow(2)", "1980uu");
        Edges.asked("24: all joints above", Edges.WHOLE, "slow(0)", "3956uu");
        Edges.asked("24: a sink at the source", "sink(0, 0) = 0; ", "slow(0)", "0");
        Edges.asked("24: the greatest load and trunk of one sink", "sink(63, 63) = 0; sets(0, 1, 9) = 1; ", "slow(0)", "18144uu");
        Edges.asked("24: an offset does not matter", ONE + "sets(0, 0, 99) = 0; ", "slow(0)", "120uu");
    }

    private static void totals() {
        Edges.range("25: what, 0 to 4", Edges.WHOLE, "total(%)", 0, 4);
        Edges.range("25: what, 0 to 4, if the tree is not whole", Edges.BUSY, "total(%)", 0, 4);
        Edges.range("25: what, 0 to 4, without sinks", Edges.EMPTY, "total(%)", 0, 4);
        Edges.asked("25: no cost without sinks", Edges.EMPTY, "total(0)", "0");
        Edges.asked("25: no cost without joints", Edges.FEW, "total(0)", "0");
        // (0, 0) to (4, 2), and (20, 20) to (24, 20).
        Edges.asked("25: the total cost of several tops", TWO + "sink(20, 20) = 2; sink(24, 20) = 3; joins(2, 3) = 9; ",
            "total(0)", "10u");
        for (int what = 1; what <= 4; what++) {
            Edges.asked("25: NONE if the tree is not whole: no top", Edges.EMPTY, "total(" + what + ")", "-1");
            Edges.asked("25: NONE if the tree is not whole: two tops", Edges.FEW, "total(" + what + ")", "-1");
            Edges.asked("25: NONE if the tree is not whole: three tops", Edges.BUSY, "total(" + what + ")", "-1");
        }
        Edges.asked("25: no trunk", "sink(0, 0) = 0; ", "total(1)", "0");
        Edges.asked("25: the longest trunk", "sink(63, 63) = 0; ", "total(1)", "126u");
        Edges.asked("25: arrivals as far apart as the skew", TWO + "sets(1, 0, 50) = 0; skew(20) = 0; ", "total(3)", "20u");
        Edges.asked("25: arrivals, the first sink being the last", TWO + "sets(0, 0, 50) = 0; skew(20) = 0; ", "total(3)", "20u");
        Edges.asked("25: arrivals at one time", Edges.WHOLE, "total(3)", "0");
    }
}

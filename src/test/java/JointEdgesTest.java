/** The edges of promises 10 to 21, and of what "Sinks and joints" and "Operations on trees" say of joints. */
public final class JointEdgesTest {
    /** Four sinks on a line, and a chain of joints over them: (((0 1) 2) 3), with wires of 2 + 3 + 4. */
    private static final String LINE = "sink(0, 0) = 0; sink(2, 0) = 1; sink(4, 0) = 2; sink(6, 0) = 3; ";
    private static final String CHAIN = LINE + "joins(0, 1) = 8; joins(8, 2) = 9; joins(9, 3) = 10; ";
    private static final String SQUARE = "sink(0, 0) = 0; sink(20, 0) = 1; sink(0, 20) = 2; sink(20, 20) = 3; ";
    private static final String ONE = "sink(7, 3) = 0; ";
    private static final String EIGHT = """
        sink(0, 0) = 0; sink(1, 0) = 1; sink(2, 0) = 2; sink(3, 0) = 3; sink(4, 0) = 4; sink(5, 0) = 5; sink(6, 0) = 6;
        sink(7, 0) = 7;
        """;
    /** All joints but the last one: the tops are 7 and 13. */
    private static final String LAST_FREE = EIGHT + """
        joins(0, 1) = 8; joins(8, 2) = 9; joins(9, 3) = 10; joins(10, 4) = 11; joins(11, 5) = 12; joins(12, 6) = 13;
        """;
    private static final String ALL_JOINTS = LAST_FREE + "joins(13, 7) = 14; ";

    public static void main(String[] args) {
        joins();
        jointNumbers();
        pairs();
        frees();
        cuts();
        graftsOfNodes();
        graftsOfNoKind();
        bestGrafts();
        exchangesOfNodes();
        exchangesOfNoKind();
        exchangesBelowZero();
        betters();
        nodes();
        would();
        Script.finish();
    }

    private static void joins() {
        String missing = "10: BAD if there is no such node";
        Edges.refusedEach(missing, Edges.BUSY, "joins(%, 2)", Edges.BAD, Edges.NO_NODE_OF_BUSY);
        Edges.refusedEach(missing, Edges.BUSY, "joins(2, %)", Edges.BAD, Edges.NO_NODE_OF_BUSY);
        Edges.refused(missing, Edges.BUSY, "joins(-1, 2)", Edges.BAD);
        Edges.refused(missing, Edges.BUSY, "joins(2, -1)", Edges.BAD);
        Edges.refused(missing, Edges.EMPTY, "joins(0, 1)", Edges.BAD);
        Edges.refused(missing, ONE, "joins(0, 1)", Edges.BAD);
        Edges.refusedEach("10: BAD if both are the same", Edges.BUSY, "joins(%, %)", Edges.BAD, 0, 2, 8, 10);
        Edges.refusedEach("10: NO if one of them is not a top", Edges.BUSY, "joins(%, 2)", Edges.NO, 0, 1, 4, 8);
        Edges.refusedEach("10: NO if one of them is not a top", Edges.BUSY, "joins(2, %)", Edges.NO, 0, 1, 4, 8);
        Edges.refused("10: NO if both are no tops", Edges.BUSY, "joins(4, 0)", Edges.NO);
        Edges.refused("10: NO for a joint and its own child", Edges.BUSY, "joins(10, 4)", Edges.NO);
        Edges.done("10: two sinks", Edges.BUSY, "joins(3, 2)", "9");
        Edges.done("10: a sink and a joint", Edges.BUSY, "joins(2, 10)", "9");
        Edges.done("10: a joint and a sink", Edges.BUSY, "joins(10, 3)", "9");
        Script.check("10: a is the left child, b the right one", Edges.BUSY + """
            joins(10, 3) = 9; node(9, 0) = 10; node(9, 1) = 3; node(9, 2) = -1; node(10, 2) = 9; node(3, 2) = 9
            """);
    }

    private static void jointNumbers() {
        Edges.done("joints 8 to 14: the first", Edges.FEW, "joins(0, 1)", "8");
        Edges.done("joints 8 to 14: the last", LAST_FREE, "joins(13, 7)", "14");
        Edges.done("joints 8 to 14: the last", LAST_FREE, "grafts(7, 0)", "14");
        Edges.refused("no joint behind 14", ALL_JOINTS, "node(15, 0)", Edges.BAD);
        Script.check("a new joint gets the lowest number that is free, by joins", Edges.BUSY
            + "joins(2, 3) = 9; joins(9, 10) = 11");
        Script.check("a new joint gets the lowest number that is free, by grafts", Edges.BUSY
            + "grafts(2, 3) = 9; grafts(9, -1) = 11");
        Script.check("a new joint gets the lowest number that is free, by pairs", Edges.BUSY
            + "pairs() = 2; node(9, 2) = 11; node(11, 2) = -1; node(12, 0) = -2");
        Script.check("of several free numbers, the lowest, whichever was freed last", ALL_JOINTS + """
            cuts(0) = 8; cuts(6) = 13; cuts(4) = 11; joins(0, 6) = 8; joins(8, 4) = 11; joins(11, 14) = 13; told(4) = 7
            """);
        Script.check("the lowest number again after frees", ALL_JOINTS + "frees() = 7; joins(6, 7) = 8; told(4) = 1");
    }

    private static void pairs() {
        Edges.refused("11: NO if there is no sink", Edges.EMPTY, "pairs()", Edges.NO);
        Edges.refused("11: NO if there is no sink, but a text", Edges.TEXT_ALONE, "pairs()", Edges.NO);
        Edges.refused("11: NO if there is no sink any more", ONE + "back() = 0; ", "pairs()", Edges.NO);
        Edges.doneInVain("11: one sink is one top", ONE, "pairs()", "0");
        Edges.doneInVain("11: a whole tree has one top", Edges.WHOLE, "pairs()", "0");
        Edges.done("11: two tops", Edges.FEW, "pairs()", "1");
        Edges.done("11: three tops, and joints before", Edges.BUSY, "pairs()", "2");
        Edges.done("11: eight tops", EIGHT, "pairs()", "7");
        // 1 and 2, 2 and 3, 1 and 4 have the distance 2.
        String near = "sink(40, 40) = 0; sink(10, 0) = 1; sink(12, 0) = 2; sink(14, 0) = 3; sink(8, 0) = 4; ";
        Script.check("11: of several pairs, the least a, then the least b", near
            + "pairs() = 4; node(8, 0) = 1; node(8, 1) = 2");
        Script.check("11: the lower number becomes the left child", "sink(9, 9) = 0; sink(0, 0) = 1; "
            + "pairs() = 1; node(8, 0) = 0; node(8, 1) = 1");
    }

    private static void frees() {
        Edges.doneInVain("12: no joints, no sinks", Edges.EMPTY, "frees()", "0");
        Edges.doneInVain("12: no joints", Edges.FEW, "frees()", "0");
        Edges.done("12: some joints", Edges.BUSY, "frees()", "2");
        Edges.done("12: all joints", ALL_JOINTS, "frees()", "7");
        Script.check("12: all nodes are tops then", ALL_JOINTS + "frees() = 7; tops() = 8; told(4) = 0; node(14, 0) = -2; "
            + "node(8, 0) = -2; node(7, 2) = -1; frees() = 0");
    }

    private static void cuts() {
        Edges.refusedEach("13: BAD if there is no such node", Edges.BUSY, "cuts(%)", Edges.BAD, Edges.NO_NODE_OF_BUSY);
        Edges.refused("13: BAD if there is no such node", Edges.BUSY, "cuts(-1)", Edges.BAD);
        Edges.refused("13: BAD if there is no node at all", Edges.EMPTY, "cuts(0)", Edges.BAD);
        Edges.refusedEach("13: NO if it is a top", Edges.BUSY, "cuts(%)", Edges.NO, 2, 3, 10);
        Edges.refused("13: NO if it is the only top", ONE, "cuts(0)", Edges.NO);
        Edges.refused("13: NO if it is the top of a whole tree", Edges.WHOLE, "cuts(9)", Edges.NO);
        Edges.refused("13: NO if it is the last joint, a top", ALL_JOINTS, "cuts(14)", Edges.NO);
        Edges.done("13: a sink deep below", Edges.BUSY, "cuts(0)", "8");
        Edges.done("13: a sink below the top", Edges.BUSY, "cuts(4)", "10");
        Edges.done("13: a joint", Edges.BUSY, "cuts(8)", "10");
        Edges.done("13: of all joints, the deepest sink", ALL_JOINTS, "cuts(0)", "8");
        Edges.done("13: of all joints, the highest joint that is a child", ALL_JOINTS, "cuts(13)", "14");
        Script.check("13: the other child takes the place of the joint, on the left", Edges.BUSY
            + "cuts(0) = 8; node(10, 0) = 1; node(10, 1) = 4; node(1, 2) = 10; node(0, 2) = -1; node(0, 9) = -1");
        Script.check("13: the other child takes the place of the joint, on the right", LINE
            + "joins(1, 2) = 8; joins(0, 8) = 9; cuts(1) = 8; node(9, 0) = 0; node(9, 1) = 2; node(2, 2) = 9");
        Script.check("13: the other child takes the place of the joint, as a top", Edges.BUSY
            + "cuts(4) = 10; node(8, 2) = -1; node(4, 2) = -1; node(10, 0) = -2; tops() = 4");
    }

    private static void graftsOfNodes() {
        String missing = "14: BAD if there is no such node";
        Edges.refusedEach(missing, Edges.BUSY, "grafts(%, 2)", Edges.BAD, Edges.NO_NODE_OF_BUSY);
        Edges.refusedEach(missing, Edges.BUSY, "grafts(%, -1)", Edges.BAD, Edges.NO_NODE_OF_BUSY);
        Edges.refusedEach(missing, Edges.BUSY, "grafts(2, %)", Edges.BAD, Edges.NO_NODE_OF_BUSY);
        Edges.refused(missing + ": NONE is no top", Edges.BUSY, "grafts(-1, 2)", Edges.BAD);
        Edges.refused(missing + ": NONE is no top", Edges.BUSY, "grafts(-1, -1)", Edges.BAD);
        Edges.done("14: at a sink that is a top", Edges.BUSY, "grafts(2, 3)", "9");
        Edges.done("14: at a joint that is a top", Edges.BUSY, "grafts(2, 10)", "9");
        Edges.done("14: at a sink below", Edges.BUSY, "grafts(2, 0)", "9");
        Edges.done("14: at a joint below", Edges.BUSY, "grafts(2, 8)", "9");
        Edges.done("14: a joint at a sink", Edges.BUSY, "grafts(10, 2)", "9");
        Script.check("14: n is the left child and k the right one, where n was", Edges.BUSY + """
            grafts(3, 4) = 9; node(9, 0) = 4; node(9, 1) = 3; node(9, 2) = 10; node(10, 0) = 8; node(10, 1) = 9;
            grafts(2, 8) = 11; node(11, 0) = 8; node(11, 1) = 2; node(10, 0) = 11; node(10, 1) = 9
            """);
        Script.check("14: at a top, the new joint is the top", Edges.BUSY
            + "grafts(3, 10) = 9; node(9, 0) = 10; node(9, 1) = 3; node(9, 2) = -1; tops() = 2");
    }

    private static void graftsOfNoKind() {
        Edges.refusedEach("14: NO if k is not a top", Edges.BUSY, "grafts(%, 2)", Edges.NO, 0, 1, 4, 8);
        Edges.refusedEach("14: NO if k is not a top", Edges.BUSY, "grafts(%, -1)", Edges.NO, 0, 1, 4, 8);
        Edges.refusedEach("14: NO if n is k", Edges.BUSY, "grafts(%, %)", Edges.NO, 2, 3, 10);
        Edges.refusedEach("14: NO if n is a child of k", Edges.BUSY, "grafts(10, %)", Edges.NO, 4, 8);
        Edges.refusedEach("14: NO if n is further below k", Edges.BUSY, "grafts(10, %)", Edges.NO, 0, 1);
        Edges.refusedEach("14: NO if n is below k, all the way down", ALL_JOINTS, "grafts(14, %)", Edges.NO, 0, 7, 8, 13);
        Edges.refused("14: NO if n is NONE and there is no other node", ONE, "grafts(0, -1)", Edges.NO);
        Edges.refused("14: NO if n is NONE and all nodes are below k", Edges.WHOLE, "grafts(9, -1)", Edges.NO);
        Edges.refused("14: NO if n is NONE and all nodes are below k", ALL_JOINTS, "grafts(14, -1)", Edges.NO);
    }

    private static void bestGrafts() {
        Edges.done("14: NONE, with one node to graft at", Edges.FEW, "grafts(0, -1)", "8");
        Edges.done("14: NONE, with the last joint that is free", LAST_FREE, "grafts(7, -1)", "14");
        Edges.done("14: NONE, the joint gets the lowest number", Edges.BUSY, "grafts(2, -1)", "9");
        Edges.done("14: NONE, for a joint", Edges.BUSY, "grafts(10, -1)", "9");
        Script.check("14: NONE, the first of all nodes",
            "sink(12, 0) = 0; sink(40, 0) = 1; sink(14, 0) = 2; joins(0, 1) = 8; grafts(2, -1) = 9; node(9, 0) = 0; node(8, 0) = 9");
        // 1 and 2 are as near to 3 as can be, 0 is far away.
        Script.check("14: of several nodes, the one with the lowest number",
            "sink(60, 60) = 0; sink(10, 0) = 1; sink(14, 0) = 2; sink(12, 0) = 3; grafts(3, -1) = 8; "
            + "node(8, 0) = 1; node(8, 1) = 3");
        // 2 lies in the region of 8 and is 10 later: 60 + 10 in all; at a sink it is 40 + 40.
        Script.check("14: a joint, although its number is greater",
            "sink(0, 20) = 0; sink(40, 0) = 1; joins(0, 1) = 8; sink(20, 10) = 2; sets(2, 0, 40) = 0; grafts(2, -1) = 9; "
            + "node(9, 0) = 8; node(9, 1) = 2; total(0) = 70u");
    }

    private static void exchangesOfNodes() {
        String missing = "15: BAD if there is no such node";
        Edges.refusedEach(missing, Edges.BUSY, "exchanges(%, 4)", Edges.BAD, Edges.NO_NODE_OF_BUSY);
        Edges.refusedEach(missing, Edges.BUSY, "exchanges(4, %)", Edges.BAD, Edges.NO_NODE_OF_BUSY);
        Edges.refused(missing, Edges.BUSY, "exchanges(-1, 4)", Edges.BAD);
        Edges.refused(missing, Edges.BUSY, "exchanges(4, -1)", Edges.BAD);
        Edges.refused(missing, Edges.BUSY, "exchanges(-1, -1)", Edges.BAD);
        Edges.refused(missing, Edges.EMPTY, "exchanges(0, 0)", Edges.BAD);
        // (((2 1) 0) 3) costs 2 + 3 + 4, (((3 1) 2) 0) costs 4 + 2 + 4, (((0 1) 3) 2) costs 2 + 5 + 3.
        Edges.done("15: a node and one below its sister; the cost may stay", CHAIN, "exchanges(0, 2)", "0");
        Edges.done("15: in the other order", CHAIN, "exchanges(2, 0)", "0");
        Edges.done("15: the deepest and the highest", CHAIN, "exchanges(0, 3)", "1u");
        Edges.done("15: neighbours", CHAIN, "exchanges(3, 2)", "1u");
        // (0 1) and (2 3) cost 2 each, (2 1) and (0 3) cost 2 and 6.
        Edges.done("15: nodes below different tops", LINE + "joins(0, 1) = 8; joins(2, 3) = 9; ", "exchanges(0, 2)", "4u");
        Script.check("15: each takes the place of the other one, left or right", CHAIN + """
            exchanges(0, 3) = 1u; node(8, 0) = 3; node(8, 1) = 1; node(10, 0) = 9; node(10, 1) = 0; node(3, 2) = 8;
            node(0, 2) = 10
            """);
    }

    private static void exchangesOfNoKind() {
        Edges.refusedEach("15: NO if one is a top", Edges.BUSY, "exchanges(%, 0)", Edges.NO, 2, 3, 10);
        Edges.refusedEach("15: NO if one is a top", Edges.BUSY, "exchanges(0, %)", Edges.NO, 2, 3, 10);
        Edges.refused("15: NO if both are tops", Edges.BUSY, "exchanges(2, 10)", Edges.NO);
        Edges.refusedEach("15: NO if both are the same", Edges.BUSY, "exchanges(%, %)", Edges.NO, 0, 2, 8, 10);
        Edges.refused("15: NO if both are children of one joint", Edges.BUSY, "exchanges(0, 1)", Edges.NO);
        Edges.refused("15: NO if both are children of one joint", Edges.BUSY, "exchanges(4, 8)", Edges.NO);
        Edges.refused("15: NO if b is a child of a", Edges.BUSY, "exchanges(8, 0)", Edges.NO);
        Edges.refused("15: NO if a is a child of b", Edges.BUSY, "exchanges(1, 8)", Edges.NO);
        Edges.refused("15: NO if b is further below a", CHAIN, "exchanges(9, 0)", Edges.NO);
        Edges.refused("15: NO if a is further below b", CHAIN, "exchanges(1, 9)", Edges.NO);
        Edges.refused("15: NO if one is below the other one, all the way down", ALL_JOINTS, "exchanges(0, 13)", Edges.NO);
    }

    /**
     * Costs are multiples of at least 32 of the units, for each level of joints halves at most twice; so no answer
     * comes out as -1 to -4, and those below 0 stand here for them. None of them is an error.
     */
    private static void exchangesBelowZero() {
        String rule = "15: an answer below 0 is no error";
        Edges.done(rule, CHAIN, "exchanges(8, 3)", "-1u");
        Edges.done(rule, CHAIN, "exchanges(3, 8)", "-1u");
        Edges.done(rule, SQUARE + "joins(0, 3) = 8; joins(1, 2) = 9; joins(8, 9) = 10; ", "exchanges(3, 1)", "-20u");
        Edges.done(rule + ", however near to 0 it is", """
            sink(3, 7) = 0; sink(7, 3) = 1; sink(3, 1) = 2; sink(6, 0) = 3; sink(1, 4) = 4; sink(6, 7) = 5;
            sink(0, 2) = 6; sets(1, 0, 1) = 0; sets(2, 0, 3) = 0; skew(3) = 0; joins(0, 1) = 8; joins(8, 2) = 9;
            joins(9, 3) = 10; joins(10, 4) = 11; joins(11, 5) = 12; joins(12, 6) = 13;
            """, "exchanges(1, 3)", "-8192");
    }

    private static void betters() {
        String none = "16: 0 if there is no such exchange, and undone all the same";
        Edges.doneInVain(none + ", no sink", Edges.EMPTY, "betters()", "0");
        Edges.doneInVain(none + ", one sink", ONE, "betters()", "0");
        Edges.doneInVain(none + ", no joint", Edges.CROWD + "frees() = 7; ", "betters()", "0");
        Edges.doneInVain(none + ", children of one joint alone", Edges.FEW + "joins(0, 1) = 8; ", "betters()", "0");
        String sides = SQUARE + "joins(0, 1) = 8; joins(2, 3) = 9; joins(8, 9) = 10; ";
        Edges.doneInVain("16: an exchange for the same cost is not carried out", sides, "betters()", "0");
        Script.check("16: an exchange for the same cost is not carried out", sides + """
            exchanges(0, 3) = 0; exchanges(0, 3) = 0; betters() = 0; node(8, 0) = 0; node(8, 1) = 1; node(9, 0) = 2;
            node(9, 1) = 3
            """);
        Edges.doneInVain(none + ", and less is not possible", ALL_JOINTS + "frees() = 7; pairs() = 7; ", "betters()", "0");
        Edges.done("16: the least cost of all", CHAIN, "betters()", "1u");
        // 4 + 4 + 2 in all; by 0 and 3, or by 1 and 2, it is 2 + 2 + 4; by 0 and 1, it is 2 + 6 + 2.
        Script.check("16: with the first of all nodes", LINE + """
            joins(0, 2) = 8; joins(1, 3) = 9; joins(8, 9) = 10; betters() = 2u; node(8, 0) = 3; node(8, 1) = 2;
            node(9, 0) = 1; node(9, 1) = 0
            """);
        // Each of (1 2), (1 3), (2 4) and (3 4) makes sides of the diagonals; 0 is a top of its own.
        String diagonals = "sink(60, 60) = 0; sink(0, 0) = 1; sink(20, 0) = 2; sink(0, 20) = 3; sink(20, 20) = 4; "
            + "joins(1, 4) = 8; joins(2, 3) = 9; joins(8, 9) = 10; ";
        Edges.done("16: of several pairs, one of them", diagonals, "betters()", "20u");
        Script.check("16: the lowest lesser node, then the lowest greater node", diagonals
            + "betters() = 20u; node(8, 0) = 2; node(8, 1) = 4; node(9, 0) = 1; node(9, 1) = 3");
    }

    private static void nodes() {
        Edges.refusedEach("17: BAD if there is no such node", Edges.BUSY, "node(%, 3)", Edges.BAD, Edges.NO_NODE_OF_BUSY);
        Edges.refused("17: BAD if there is no such node", Edges.BUSY, "node(-1, 3)", Edges.BAD);
        Edges.range("17: what, 0 to 11, of a sink", Edges.BUSY, "node(2, %)", 0, 11);
        Edges.range("17: what, 0 to 11, of a joint", Edges.BUSY, "node(10, %)", 0, 11);
        Edges.range("17: the nodes are 0 to 14", ALL_JOINTS, "node(%, 7)", 0, 14);
        Edges.asked("17: NONE for the left child of a sink", Edges.BUSY, "node(0, 0)", "-1");
        Edges.asked("17: NONE for the right child of a sink", Edges.BUSY, "node(0, 1)", "-1");
        Edges.asked("17: the children of a joint", Edges.BUSY, "node(10, 0)", "8");
        Edges.asked("17: the children of a joint", Edges.BUSY, "node(10, 1)", "4");
        Edges.asked("17: NONE for the joint of a top, a sink", Edges.BUSY, "node(2, 2)", "-1");
        Edges.asked("17: NONE for the joint of a top, a joint", Edges.BUSY, "node(10, 2)", "-1");
        Edges.asked("17: the joint of a child", Edges.BUSY, "node(0, 2)", "8");
        Edges.asked("17: NONE for the wire of a top, a sink", Edges.BUSY, "node(3, 9)", "-1");
        Edges.asked("17: NONE for the wire of a top, a joint", Edges.BUSY, "node(10, 9)", "-1");
        Edges.asked("17: a wire of length 0 is not NONE", Edges.WHOLE, "node(2, 9)", "0");
        Edges.asked("17: a sink costs nothing", Edges.BUSY, "node(0, 10)", "0");
        Edges.asked("17: 1 sink for a sink", Edges.BUSY, "node(0, 11)", "1");
        Edges.asked("17: the sinks below a joint", Edges.BUSY, "node(8, 11)", "2");
        Edges.asked("17: all sinks", ALL_JOINTS, "node(14, 11)", "8");
        Script.check("17: a child that becomes a top has no wire any more", Edges.WHOLE
            + "node(8, 9) = 37u; node(2, 9) = 0; cuts(8) = 9; node(8, 9) = -1; node(2, 9) = -1; node(0, 9) = 3u");
    }

    private static void would() {
        String missing = "18: BAD if there is no such node";
        Edges.refusedEach(missing, Edges.BUSY, "would(%, 2, 0)", Edges.BAD, Edges.NO_NODE_OF_BUSY);
        Edges.refusedEach(missing, Edges.BUSY, "would(2, %, 0)", Edges.BAD, Edges.NO_NODE_OF_BUSY);
        Edges.refused(missing, Edges.BUSY, "would(-1, 2, 0)", Edges.BAD);
        Edges.refused(missing, Edges.BUSY, "would(2, -1, 0)", Edges.BAD);
        Edges.refusedEach("18: BAD if both are the same", Edges.BUSY, "would(%, %, 0)", Edges.BAD, 0, 2, 8, 10);
        Edges.range("18: what, 0 to 3", Edges.BUSY, "would(0, 2, %)", 0, 3);
        // 8 has U from 1 to 5, V = 1 and the time 3; 9 is at U = 18 and V = 0, with the time 40.
        String any = "18: whatever nodes these are";
        Edges.asked(any + ": children of one joint", Edges.WHOLE, "would(0, 1, 0)", "6u");
        Edges.asked(any + ": a child and its joint", Edges.WHOLE, "would(0, 8, 0)", "3u");
        Edges.asked(any + ": a joint and its child", Edges.WHOLE, "would(8, 0, 3)", "3u");
        Edges.asked(any + ": the top and what is far below it", Edges.WHOLE, "would(9, 0, 0)", "40u");
        Edges.asked(any + ": the top and what is far below it", Edges.WHOLE, "would(9, 0, 1)", "24u");
        Edges.asked(any + ": the last joints", ALL_JOINTS, "would(14, 13, 3)", "0.5u");
    }
}

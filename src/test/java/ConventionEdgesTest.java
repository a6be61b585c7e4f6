/** The edges that "Conventions" names: which error is returned, what is counted, and that nothing else changes. */
public final class ConventionEdgesTest {
    public static void main(String[] args) {
        badRatherThanNo();
        badRatherThanFull();
        noRatherThanFull();
        errorsRatherThanNone();
        noneIsNoError();
        countsByKind();
        lastCall();
        Script.finish();
    }

    private static void badRatherThanNo() {
        String rule = "BAD is returned rather than NO";
        // The point is that of another sink, and the sink to be moved does not exist.
        Edges.refusedEach(rule, Edges.BUSY, "moves(%, 30, 8)", Edges.BAD, -1, 5, 8);
        // 0, 1, 4 and 8 are not tops.
        Edges.refused(rule, Edges.BUSY, "joins(0, 0)", Edges.BAD);
        Edges.refused(rule, Edges.BUSY, "joins(8, 8)", Edges.BAD);
        Edges.refusedEach(rule, Edges.BUSY, "joins(0, %)", Edges.BAD, -1, 5, 9, 15);
        Edges.refusedEach(rule, Edges.BUSY, "joins(%, 0)", Edges.BAD, -1, 5, 9, 15);
        Edges.refusedEach(rule, Edges.BUSY, "grafts(0, %)", Edges.BAD, -2, 5, 9, 15);
        Edges.refusedEach(rule, Edges.BUSY, "exchanges(2, %)", Edges.BAD, -1, 5, 9, 15);
        Edges.refusedEach(rule, Edges.BUSY, "exchanges(%, 2)", Edges.BAD, -1, 5, 9, 15);
        // No sink, or more than six of them.
        Edges.refusedEach(rule, Edges.EMPTY, "least(%)", Edges.BAD, -1, 2);
        Edges.refusedEach(rule, Edges.CROWD, "least(%)", Edges.BAD, -1, 2);
        // Not whole.
        Edges.refusedEach(rule, Edges.BUSY, "place(0, %)", Edges.BAD, -1, 3);
        Edges.refusedEach(rule, Edges.BUSY, "place(%, 0)", Edges.BAD, -1, 5, 9, 15);
        Edges.refusedEach(rule, Edges.BUSY, "arrival(%)", Edges.BAD, -1, 5, 8);
        Edges.refusedEach(rule, Edges.BUSY, "slow(%)", Edges.BAD, -1, 5, 8);
        Edges.refused(rule, Edges.EMPTY, "place(0, 0)", Edges.BAD);
        Edges.refused(rule, Edges.EMPTY, "arrival(0)", Edges.BAD);
        Edges.refused(rule, Edges.EMPTY, "slow(0)", Edges.BAD);
        // Nothing is saved, and the node does not exist: each method has its own error.
        Edges.refused(rule, Edges.EMPTY, "cuts(0)", Edges.BAD);
        Edges.refused(rule, Edges.EMPTY, "grafts(0, -1)", Edges.BAD);
    }

    private static void badRatherThanFull() {
        String rule = "BAD rather than FULL";
        Edges.refusedEach(rule, Edges.CROWD, "sink(%, 1)", Edges.BAD, -1, 64);
        Edges.refusedEach(rule, Edges.CROWD, "sink(1, %)", Edges.BAD, -1, 64);
        Edges.refusedEach(rule, Edges.CROWD, "type(%)", Edges.BAD, -1, 128);
    }

    private static void noRatherThanFull() {
        String rule = "NO rather than FULL";
        Edges.refused(rule, Edges.CROWD, "sink(0, 0)", Edges.NO);
        Edges.refused(rule, Edges.CROWD, "sink(56, 49)", Edges.NO);
        Edges.refused(rule, Edges.CROWD, "sink(49, 56)", Edges.FULL);
    }

    private static void errorsRatherThanNone() {
        String rule = "NONE is returned only if no error applies";
        Edges.refused(rule, Edges.EMPTY, "touched(-1)", Edges.BAD);
        Edges.refused(rule, Edges.EMPTY, "at(64, 0)", Edges.BAD);
        Edges.refused(rule, Edges.EMPTY, "at(0, -1)", Edges.BAD);
        Edges.refusedEach(rule, Edges.BUSY, "total(%)", Edges.BAD, -1, 5);
        Edges.refused(rule, Edges.BUSY, "node(5, 0)", Edges.BAD);
        Edges.refused(rule, Edges.BUSY, "node(9, 9)", Edges.BAD);
        Edges.refused(rule, Edges.BUSY, "shown(5, 99)", Edges.BAD);
        Edges.refused(rule, Edges.BUSY, "shown(10, -1)", Edges.BAD);
        // 10 is a top, but not the only one.
        Edges.refused(rule, Edges.BUSY, "place(10, 2)", Edges.NO);
        Edges.refused(rule, Edges.WHOLE, "place(10, 2)", Edges.BAD);
    }

    private static void noneIsNoError() {
        String rule = "NONE is no error and is not counted";
        Edges.asked(rule, Edges.BUSY, "touched(5)", "-1");
        Edges.asked(rule, Edges.BUSY, "at(8, 30)", "-1");
        Edges.asked(rule, Edges.BUSY, "node(4, 0)", "-1");
        Edges.asked(rule, Edges.BUSY, "node(4, 1)", "-1");
        Edges.asked(rule, Edges.BUSY, "node(10, 2)", "-1");
        Edges.asked(rule, Edges.BUSY, "node(10, 9)", "-1");
        Edges.asked(rule, Edges.WHOLE, "nearest()", "-1");
        Edges.asked(rule, Edges.WHOLE, "place(9, 2)", "-1");
        Edges.asked(rule, Edges.BUSY, "total(1)", "-1");
        Edges.asked(rule, Edges.BUSY, "shown(10, 7)", "-1");
    }

    private static void countsByKind() {
        Script.check("told() returns the counts: each error raises its own count alone", Edges.CROWD + """
            told(0) = 0; told(1) = 0; told(2) = 0; sink(64, 0) = -2; told(0) = 1; told(1) = 0; told(2) = 0;
            sink(0, 0) = -3; told(0) = 1; told(1) = 1; told(2) = 0; sink(1, 0) = -4; told(0) = 1; told(1) = 1;
            told(2) = 1; type(48) = -4; told(2) = 2; least(0) = -3; told(1) = 2; told(10) = -2; told(0) = 2
            """);
    }

    private static void lastCall() {
        ClockWires object = new ClockWires();
        for (int call = 1; call <= 510; call++) {
            object.told(-1);
        }
        Script.due("the 511th call", object.sink(63, 63), 0);
        Script.due("the 512th call", object.told(0), 510);
    }
}

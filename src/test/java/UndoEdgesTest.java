/** The edges of promises 30 to 32, and of what "Undo" says. */
public final class UndoEdgesTest {
    /** As BUSY, with the oldest state lost and the newest one undone. */
    private static final String SEVEN_SAVED = Edges.BUSY + "frees() = 2; back() = 7; ";
    /** Calls that can be undone and succeed on BUSY, some of them without changing anything. */
    private static final String[] SAVING = {"sink(60, 60)", "moves(4, 60, 60)", "moves(4, 3, 50)", "sets(4, 0, 9)",
        "sets(4, 1, 9)", "sets(4, 1, 1)", "skew(9)", "skew(5)", "source(1, 2)", "source(20, 33)", "joins(2, 3)", "pairs()",
        "frees()", "cuts(0)", "cuts(8)", "grafts(2, 3)", "grafts(2, -1)", "exchanges(0, 4)", "betters()", "builds()"};
    /** Calls that answer and change nothing. */
    private static final String[] ASKING = {"end(0, 0)", "touched(0)", "at(10, 10)", "node(0, 3)", "would(0, 1, 0)",
        "nearest()", "tops()", "least(0)", "total(0)", "total(1)", "shown(10, 0)", "told(9)", "digest()"};

    public static void main(String[] args) {
        savedStates();
        oldestLost();
        eachMethodSaves();
        asksDoNotSave();
        whatStays();
        whatIsRestored();
        lowAgain();
        told();
        digestOfErrors();
        digestLeavesOut();
        Script.finish();
    }

    private static String skews(int count) {
        StringBuilder calls = new StringBuilder();
        for (int i = 1; i <= count; i++) {
            calls.append("skew(").append(i).append(") = ").append(i - 1).append("; ");
        }
        return calls.toString();
    }

    private static void savedStates() {
        Edges.refused("30: NO if there is none", Edges.EMPTY, "back()", Edges.NO);
        Edges.refused("30: NO if there is none any more", "skew(1) = 0; back() = 0; ", "back()", Edges.NO);
        Edges.refused("30: NO if there is none, but a text", Edges.TEXT_ALONE, "back()", Edges.NO);
        for (int saves = 1; saves <= 10; saves++) {
            int kept = Math.min(saves, 8);
            StringBuilder calls = new StringBuilder(skews(saves)).append("told(9) = ").append(kept).append("; ");
            for (int left = kept - 1; left >= 0; left--) {
                calls.append("back() = ").append(left).append("; told(9) = ").append(left).append("; told(5) = ")
                    .append(saves - kept + left).append("; ");
            }
            Script.check("at most 8 states: of " + saves, calls + "back() = -3; told(5) = " + (saves - kept)
                + "; told(9) = 0; told(1) = 1");
        }
    }

    private static void oldestLost() {
        Script.check("the seventh, the eighth and the ninth state", skews(7) + "told(9) = 7; skew(8) = 7; told(9) = 8; "
            + "skew(9) = 8; told(9) = 8");
        Script.check("the oldest is lost: of nine sinks undone, the first stays", """
            sink(0, 0) = 0; sink(1, 0) = 1; sink(2, 0) = 2; sink(3, 0) = 3; sink(4, 0) = 4; sink(5, 0) = 5; sink(6, 0) = 6;
            sink(7, 0) = 7; frees() = 0; back() = 7; told(3) = 8; back() = 6; back() = 5; back() = 4; back() = 3; back() = 2;
            back() = 1; back() = 0; told(3) = 1; at(0, 0) = 0; back() = -3; told(3) = 1
            """);
        Script.check("round and round: thirty states, with some undone between them", skews(30) + """
            back() = 7; back() = 6; back() = 5; told(5) = 27; skew(50) = 27; skew(51) = 50; skew(52) = 51; skew(53) = 52;
            told(9) = 8; back() = 7; told(5) = 52; back() = 6; back() = 5; back() = 4; told(5) = 27; back() = 3;
            told(5) = 26; back() = 2; back() = 1; back() = 0; told(5) = 23; back() = -3
            """);
    }

    private static void eachMethodSaves() {
        for (String call : SAVING) {
            Edges.done("it can be undone, and the oldest state is lost", Edges.BUSY, call, answer(Edges.BUSY, call));
            Edges.done("it can be undone, and is the eighth state", SEVEN_SAVED, call, answer(SEVEN_SAVED, call));
        }
    }

    private static String answer(String setUp, String call) {
        return Long.toString(Script.call(Script.made(call, setUp), call));
    }

    private static void asksDoNotSave() {
        for (String call : ASKING) {
            Edges.asked("it is not saved", Edges.BUSY, call, answer(Edges.BUSY, call));
            Edges.asked("it is not saved", SEVEN_SAVED, call, answer(SEVEN_SAVED, call));
        }
        Script.check("the text is not saved", Edges.FEW + "told(9) = 3; type(49) = 2; told(9) = 3; clear() = 2; told(9) = 3");
        Script.check("back is not saved", Edges.FEW + "back() = 2; told(9) = 2; back() = 1; told(9) = 1; told(3) = 1");
        Script.check("faults are not saved", Edges.FEW + "type(40) = 2; builds() = -11; told(9) = 3");
    }

    private static void whatStays() {
        Script.check("30: the text stays", Edges.FEW + "type(32) = 2; back() = 2; told(8) = 2; back() = 1; back() = 0; told(8) = 2; "
            + "back() = -3; told(8) = 2; sink(1, 1) = 0; builds() = 0");
        Script.check("30: a text that was cleared stays so", Edges.FEW + "clear() = 1; back() = 2; told(8) = 0; builds() = -10");
        Script.check("30: the counts of errors stay", """
            sink(1, 1) = 0; skew(100) = -2; sink(1, 1) = -3; back() = 0; told(0) = 1; told(1) = 1; back() = -3; told(0) = 1;
            told(1) = 2; told(2) = 0
            """);
        Script.check("30: the count of FULL stays", Edges.CROWD + "sink(1, 1) = -4; type(32) = -4; back() = 7; told(2) = 2; "
            + "told(8) = 60");
    }

    private static void whatIsRestored() {
        Script.check("saved are the sinks", """
            sink(1, 1) = 0; sets(0, 0, 5) = 0; sets(0, 1, 6) = 1; moves(0, 2, 2) = 2u; sink(3, 3) = 1; back() = 4; told(3) = 1;
            back() = 3; end(0, 0) = 1; end(0, 3) = 6; back() = 2; end(0, 3) = 1; end(0, 2) = 5; back() = 1; end(0, 2) = 0;
            back() = 0; told(3) = 0; end(0, 0) = -2
            """);
        Script.check("saved are the joints, with their numbers and sides", Edges.BUSY + """
            frees() = 2; told(4) = 0; back() = 7; told(4) = 2; node(8, 0) = 0; node(8, 1) = 1; node(10, 0) = 8;
            node(10, 1) = 4; node(9, 0) = -2; joins(2, 3) = 9
            """);
        Script.check("saved are the skew and the source", """
            skew(99) = 0; source(63, 62) = 125u; source(0, 0) = 125u; skew(0) = 99; back() = 3; told(5) = 99; back() = 2;
            told(6) = 63; told(7) = 62; back() = 1; told(6) = 0; told(7) = 0; back() = 0; told(5) = 0
            """);
        Script.check("saved is the order in which sinks were touched", """
            sink(0, 0) = 0; sink(1, 0) = 1; sink(2, 0) = 2; moves(0, 0, 0) = 0; sets(1, 0, 0) = 0; touched(0) = 1;
            touched(1) = 0; touched(2) = 2; back() = 4; touched(0) = 0; touched(1) = 2; touched(2) = 1; back() = 3;
            touched(0) = 2; touched(1) = 1; touched(2) = 0; back() = 2; touched(0) = 1; touched(2) = -1
            """);
    }

    private static void lowAgain() {
        Script.check("after back, a sink and a joint get the lowest numbers again", """
            sink(0, 0) = 0; sink(5, 5) = 1; joins(0, 1) = 8; back() = 2; joins(1, 0) = 8; node(8, 0) = 1; back() = 2;
            back() = 1; sink(6, 6) = 1; end(1, 0) = 6
            """);
    }

    private static void told() {
        Edges.range("31: what, 0 to 9", Edges.BUSY, "told(%)", 0, 9);
        Edges.range("31: what, 0 to 9, of a new object", Edges.EMPTY, "told(%)", 0, 9);
        String[] busy = {"2", "1", "0", "5", "2", "5", "20", "33", "7", "8"};
        String[] crowd = {"0", "0", "0", "8", "7", "0", "0", "0", "60", "8"};
        for (int what = 0; what <= 9; what++) {
            Edges.asked("31: each number", Edges.BUSY, "told(" + what + ")", busy[what]);
            Edges.asked("31: each at its most", Edges.CROWD, "told(" + what + ")", crowd[what]);
        }
        Script.check("31: a refused told is counted by the next", "told(10) = -2; told(0) = 1; told(-1) = -2; told(0) = 2");
    }

    private static void digestOfErrors() {
        // Without sinks there are 15 numbers: told(0) to told(9), and total(0) to total(4).
        ClockWires object = new ClockWires();
        long before = object.digest();
        object.told(10);
        Script.due("32: told(0) comes first, 14 numbers before the end", object.digest() - before, power(14));
        object.back();
        Script.due("32: told(1) comes next", object.digest() - before, power(14) + power(13));
        object.type(0);
        Script.due("32: told(8)", object.digest() - before, power(14) + power(13) + power(6));
        Script.due("32: asking for it changes nothing", object.digest() - before, power(14) + power(13) + power(6));
    }

    private static long power(int exponent) {
        long result = 1;
        for (int i = 0; i < exponent; i++) {
            result *= 31;
        }
        return result;
    }

    private static void digestLeavesOut() {
        ClockWires one = Script.made("32", Edges.BUSY + "moves(0, 10, 10) = 0");
        ClockWires other = Script.made("32", Edges.BUSY + "moves(3, 22, 40) = 0");
        Script.due("32: not the order in which sinks were touched", one.digest(), other.digest());
        one.type(40);
        other.type(41);
        Script.due("32: not the bytes of the text", one.digest(), other.digest());
        ClockWires least = Script.made("32", Edges.BUSY);
        long before = least.digest();
        least.least(0);
        least.would(0, 2, 1);
        Script.due("32: not what was asked", least.digest(), before);
    }
}

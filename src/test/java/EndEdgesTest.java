/** The edges of promises 1 to 9, and of what "Sinks and joints" says of sinks, the source and the skew. */
public final class EndEdgesTest {
    private static final String SEVEN = """
        sink(0, 0) = 0; sink(8, 1) = 1; sink(16, 4) = 2; sink(24, 9) = 3; sink(32, 16) = 4; sink(40, 25) = 5;
        sink(48, 36) = 6;
        """;

    public static void main(String[] args) {
        newObject();
        sinks();
        samePoint();
        fullOfSinks();
        moves();
        movesToPoints();
        distances();
        settings();
        skews();
        sources();
        properties();
        touching();
        points();
        Script.finish();
    }

    private static void newObject() {
        String rule = "1: an object without sinks, with the source at (0, 0), the skew 0 and an empty text";
        for (int what = 0; what <= 9; what++) {
            Edges.asked(rule, Edges.EMPTY, "told(" + what + ")", "0");
        }
        Edges.refused(rule, Edges.EMPTY, "end(0, 0)", Edges.BAD);
        Edges.refused(rule, Edges.EMPTY, "node(0, 0)", Edges.BAD);
        Edges.refused(rule, Edges.EMPTY, "node(8, 0)", Edges.BAD);
        Edges.refused(rule, Edges.EMPTY, "back()", Edges.NO);
        // An empty text ends too early at its beginning.
        Edges.asked(rule, Edges.EMPTY, "builds()", "-10");
        Edges.asked(rule, Edges.EMPTY, "clear()", "0");
    }

    private static void sinks() {
        Edges.range("2: x, 0 to 63", Edges.BUSY, "sink(%, 30)", 0, 63);
        Edges.range("2: y, 0 to 63", Edges.BUSY, "sink(30, %)", 0, 63);
        Edges.done("2: x, its lowest", Edges.BUSY, "sink(0, 30)", "5");
        Edges.done("2: x, its greatest", Edges.BUSY, "sink(63, 30)", "5");
        Edges.done("2: y, its lowest", Edges.BUSY, "sink(30, 0)", "5");
        Edges.done("2: y, its greatest", Edges.BUSY, "sink(30, 63)", "5");
        Edges.refused("2: both out of range", Edges.BUSY, "sink(-1, 64)", Edges.BAD);
        Edges.done("2: numbered from 0; at first there are none", Edges.EMPTY, "sink(63, 63)", "0");
        Script.check("2: the four corners", """
            sink(0, 0) = 0; sink(63, 0) = 1; sink(0, 63) = 2; sink(63, 63) = 3; node(0, 3) = 0; node(1, 3) = 63u;
            node(1, 5) = 63u; node(2, 3) = 63u; node(2, 5) = -63u; node(3, 3) = 126u; node(3, 5) = 0
            """);
        Script.check("2: an offset of 0 and a load of 1 at first, also where a sink was set and undone", """
            sink(1, 1) = 0; end(0, 2) = 0; end(0, 3) = 1; sink(2, 2) = 1; sets(1, 0, 9) = 0; sets(1, 1, 9) = 1;
            back() = 3; back() = 2; back() = 1; sink(3, 3) = 1; end(1, 2) = 0; end(1, 3) = 1
            """);
        Script.check("2: the new sink is a top, so that the tree is not whole any more", Edges.WHOLE + """
            tops() = 1; total(1) = 18u; sink(30, 30) = 3; tops() = 2; node(3, 2) = -1; node(3, 9) = -1; total(1) = -1
            """);
    }

    private static void samePoint() {
        String rule = "2: NO if there is a sink at this point";
        Edges.refused(rule, Edges.BUSY, "sink(10, 10)", Edges.NO);
        Edges.refused(rule, Edges.BUSY, "sink(3, 50)", Edges.NO);
        Edges.done(rule + ", but not beside it", Edges.BUSY, "sink(11, 10)", "5");
        Edges.done(rule + ", but not beside it", Edges.BUSY, "sink(10, 9)", "5");
        Edges.done(rule + ", but not across", Edges.BUSY, "sink(8, 30)", "5");
        Edges.refused(rule + ", also one that was moved there", Edges.FEW + "moves(0, 6, 5) = 1u; ", "sink(6, 5)", Edges.NO);
        Edges.done(rule + ", but not one that was moved away", Edges.FEW + "moves(0, 6, 5) = 1u; ", "sink(5, 5)", "2");
        Edges.done(rule + ", but not one that was undone", Edges.FEW + "sink(7, 7) = 2; back() = 3; ", "sink(7, 7)", "2");
        Edges.done("2: the source may be there", Edges.BUSY, "sink(20, 33)", "5");
    }

    private static void fullOfSinks() {
        Edges.done("2: the eighth sink", SEVEN, "sink(63, 63)", "7");
        Edges.refused("2: FULL if there are 8 sinks already", SEVEN + "sink(63, 63) = 7; ", "sink(63, 62)", Edges.FULL);
        Edges.refused("2: FULL if there are 8 sinks already", Edges.CROWD, "sink(63, 63)", Edges.FULL);
        Edges.done("2: not if the eighth was undone", SEVEN + "sink(63, 63) = 7; back() = 7; ", "sink(1, 63)", "7");
    }

    private static void moves() {
        Edges.range("3: the sinks are 0 to 4", Edges.BUSY, "moves(%, 50, 50)", 0, 4);
        Edges.refusedEach("3: BAD if there is no such sink", Edges.BUSY, "moves(%, 50, 50)", Edges.BAD,
            Edges.NO_SINK_OF_BUSY);
        Edges.range("3: the sinks are 0 to 7, the joint 8 is none", Edges.CROWD, "moves(%, 1, 50)", 0, 7);
        Edges.refused("3: BAD if there is no sink at all", Edges.EMPTY, "moves(0, 1, 1)", Edges.BAD);
        Edges.range("3: x, 0 to 63", Edges.BUSY, "moves(4, %, 20)", 0, 63);
        Edges.range("3: y, 0 to 63", Edges.BUSY, "moves(4, 20, %)", 0, 63);
        Edges.done("3: x, its lowest", Edges.BUSY, "moves(4, 0, 50)", "3u");
        Edges.done("3: x, its greatest", Edges.BUSY, "moves(4, 63, 50)", "60u");
        Edges.done("3: y, its lowest", Edges.BUSY, "moves(4, 3, 0)", "50u");
        Edges.done("3: y, its greatest", Edges.BUSY, "moves(4, 3, 63)", "13u");
    }

    private static void movesToPoints() {
        Edges.refused("3: NO if another sink is at this point", Edges.BUSY, "moves(0, 14, 12)", Edges.NO);
        Edges.refused("3: NO if another sink is at this point", Edges.BUSY, "moves(4, 10, 10)", Edges.NO);
        Edges.done("3: 0 if it is the same point", Edges.BUSY, "moves(0, 10, 10)", "0");
        Edges.done("3: 0 if it is the same point", Edges.BUSY, "moves(3, 22, 40)", "0");
        Edges.doneInVain("3: 0 if it is the same point, touched last", Edges.BUSY, "moves(1, 14, 12)", "0");
        Edges.done("3: the source may be there", Edges.BUSY, "moves(0, 20, 33)", "33u");
        Script.check("3: to the same point, it is touched and saved all the same", Edges.FEW + """
            touched(0) = 1; moves(0, 5, 5) = 0; touched(0) = 0; told(9) = 4; back() = 3; touched(0) = 1
            """);
    }

    private static void distances() {
        String rule = "3: the greater one of the differences of U and V";
        // U and V are 20 and 0 at first.
        String start = "sink(10, 10) = 0; ";
        Edges.done(rule + ": U, upward", start, "moves(0, 13, 12)", "5u");
        Edges.done(rule + ": U, downward", start, "moves(0, 8, 7)", "5u");
        Edges.done(rule + ": V, upward", start, "moves(0, 13, 8)", "5u");
        Edges.done(rule + ": V, downward", start, "moves(0, 8, 13)", "5u");
        Edges.done(rule + ": both the same", start, "moves(0, 10, 15)", "5u");
        Edges.done(rule + ": the least", start, "moves(0, 11, 10)", "1u");
        Edges.done(rule + ": the greatest of U", "sink(0, 0) = 0; ", "moves(0, 63, 63)", "126u");
        Edges.done(rule + ": the greatest of V", "sink(63, 0) = 0; ", "moves(0, 0, 63)", "126u");
    }

    private static void settings() {
        Edges.range("4: the sinks are 0 to 4", Edges.BUSY, "sets(%, 0, 5)", 0, 4);
        Edges.refusedEach("4: k names no sink", Edges.BUSY, "sets(%, 1, 5)", Edges.BAD, Edges.NO_SINK_OF_BUSY);
        Edges.range("4: the sinks are 0 to 7, the joint 8 is none", Edges.CROWD, "sets(%, 1, 5)", 0, 7);
        Edges.refused("4: no sink at all", Edges.EMPTY, "sets(0, 0, 5)", Edges.BAD);
        Edges.range("4: what, 0 and 1", Edges.BUSY, "sets(2, %, 5)", 0, 1);
        Edges.range("4: 0 to 99 for the offset", Edges.BUSY, "sets(0, 0, %)", 0, 99);
        Edges.range("4: 1 to 9 for the load", Edges.BUSY, "sets(1, 1, %)", 1, 9);
        Edges.refusedEach("4: what fits an offset fits no load", Edges.BUSY, "sets(1, 1, %)", Edges.BAD, 0, 99);
        Edges.done("4: the lowest offset", Edges.BUSY, "sets(0, 0, 0)", "7");
        Edges.done("4: the greatest offset", Edges.BUSY, "sets(0, 0, 99)", "7");
        Edges.done("4: the lowest load", Edges.BUSY, "sets(1, 1, 1)", "4");
        Edges.done("4: the greatest load", Edges.BUSY, "sets(1, 1, 9)", "4");
        Edges.done("4: the same offset again", Edges.BUSY, "sets(0, 0, 7)", "7");
        Edges.doneInVain("4: the same load again", Edges.BUSY, "sets(1, 1, 4)", "4");
        Edges.done("4: an offset of 0 at first", Edges.BUSY, "sets(4, 0, 50)", "0");
        Edges.done("4: a load of 1 at first", Edges.BUSY, "sets(4, 1, 5)", "1");
        Script.check("4: the edges as they are read back", """
            sink(1, 1) = 0; sets(0, 0, 99) = 0; end(0, 2) = 99; node(0, 7) = 99u; node(0, 8) = 99u; sets(0, 1, 9) = 1;
            end(0, 3) = 9; sets(0, 0, 0) = 99; end(0, 2) = 0; node(0, 7) = 0; end(0, 3) = 9; sets(0, 1, 1) = 9;
            end(0, 3) = 1
            """);
    }

    private static void skews() {
        Edges.range("5: 0 to 99", Edges.BUSY, "skew(%)", 0, 99);
        Edges.done("5: the lowest", Edges.BUSY, "skew(0)", "5");
        Edges.done("5: the greatest", Edges.BUSY, "skew(99)", "5");
        Edges.doneInVain("5: the same again", Edges.BUSY, "skew(5)", "5");
        Edges.doneInVain("5: 0 at first", Edges.EMPTY, "skew(0)", "0");
        Script.check("5: the edges as they are read back", "skew(99) = 0; told(5) = 99; skew(0) = 99; told(5) = 0");
    }

    private static void sources() {
        Edges.range("6: x, 0 to 63", Edges.BUSY, "source(%, 33)", 0, 63);
        Edges.range("6: y, 0 to 63", Edges.BUSY, "source(20, %)", 0, 63);
        Edges.done("6: x, its lowest", Edges.BUSY, "source(0, 33)", "20u");
        Edges.done("6: x, its greatest", Edges.BUSY, "source(63, 33)", "43u");
        Edges.done("6: y, its lowest", Edges.BUSY, "source(20, 0)", "33u");
        Edges.done("6: y, its greatest", Edges.BUSY, "source(20, 63)", "30u");
        Edges.doneInVain("6: the same point", Edges.BUSY, "source(20, 33)", "0");
        Edges.done("6: a sink may be there", Edges.BUSY, "source(10, 10)", "33u");
        Edges.doneInVain("6: (0, 0) at first", Edges.EMPTY, "source(0, 0)", "0");
        Edges.done("6: the greatest distance along U", Edges.EMPTY, "source(63, 63)", "126u");
        Edges.done("6: the greatest distance along V", "source(63, 0) = 63u; ", "source(0, 63)", "126u");
    }

    private static void properties() {
        Edges.range("7: the sinks are 0 to 4", Edges.BUSY, "end(%, 0)", 0, 4);
        Edges.refusedEach("7: BAD if there is no such sink", Edges.BUSY, "end(%, 3)", Edges.BAD, Edges.NO_SINK_OF_BUSY);
        Edges.range("7: the sinks are 0 to 7, the joint 8 is none", Edges.CROWD, "end(%, 0)", 0, 7);
        Edges.range("7: what, 0 to 3", Edges.BUSY, "end(0, %)", 0, 3);
        Edges.asked("7: the first property", Edges.BUSY, "end(4, 0)", "3");
        Edges.asked("7: the last property", Edges.BUSY, "end(1, 3)", "4");
        Edges.asked("7: the last sink", Edges.CROWD, "end(7, 1)", "49");
    }

    private static void touching() {
        // 1 was touched last, before it 0, and before that the others, as they were added.
        Edges.asked("8: 0 for the sink that was touched last", Edges.BUSY, "touched(0)", "1");
        Edges.asked("8: 1 for the one before it", Edges.BUSY, "touched(1)", "0");
        Edges.asked("8: the last one that there is", Edges.BUSY, "touched(4)", "2");
        Edges.asked("8: NONE if there are not so many", Edges.BUSY, "touched(5)", "-1");
        Edges.asked("8: NONE if there are not so many", Edges.BUSY, "touched(8)", "-1");
        Edges.asked("8: NONE if there are not so many", Edges.BUSY, "touched(2147483647)", "-1");
        Edges.asked("8: NONE if there is no sink", Edges.EMPTY, "touched(0)", "-1");
        Edges.asked("8: the last of eight", Edges.CROWD, "touched(7)", "0");
        Edges.asked("8: NONE behind eight", Edges.CROWD, "touched(8)", "-1");
        Edges.refusedEach("8: BAD if j is negative", Edges.BUSY, "touched(%)", Edges.BAD, -1, -2, Edges.LOWEST);
        Script.check("8: refused calls touch nothing", Edges.BUSY + """
            moves(3, 64, 0) = -2; moves(3, 10, 10) = -3; sets(3, 0, 100) = -2; sets(3, 1, 0) = -2; sink(10, 10) = -3;
            touched(0) = 1; touched(1) = 0; touched(2) = 4; touched(3) = 3; touched(4) = 2
            """);
        Script.check("8: the sink touched longest ago comes to the front, one touched last stays there", Edges.CROWD + """
            sets(0, 1, 1) = 1; touched(0) = 0; touched(1) = 7; touched(7) = 1; touched(8) = -1; moves(0, 0, 0) = 0;
            touched(0) = 0; touched(1) = 7; touched(7) = 1
            """);
    }

    private static void points() {
        Edges.range("9: x, 0 to 63", Edges.BUSY, "at(%, 30)", 0, 63);
        Edges.range("9: y, 0 to 63", Edges.BUSY, "at(30, %)", 0, 63);
        Edges.asked("9: NONE if there is none", Edges.BUSY, "at(10, 11)", "-1");
        Edges.asked("9: NONE at the source", Edges.BUSY, "at(20, 33)", "-1");
        Edges.asked("9: NONE if there is no sink", Edges.EMPTY, "at(0, 0)", "-1");
        String corners = "sink(0, 0) = 0; sink(63, 0) = 1; sink(0, 63) = 2; sink(63, 63) = 3; ";
        Edges.asked("9: the corners", corners, "at(0, 0)", "0");
        Edges.asked("9: the corners", corners, "at(63, 0)", "1");
        Edges.asked("9: the corners", corners, "at(0, 63)", "2");
        Edges.asked("9: the corners", corners, "at(63, 63)", "3");
        Edges.asked("9: NONE where a sink was moved away", Edges.FEW + "moves(0, 6, 5) = 1u; ", "at(5, 5)", "-1");
        Edges.asked("9: NONE where a sink was undone", Edges.FEW + "sink(7, 7) = 2; back() = 3; ", "at(7, 7)", "-1");
    }
}

/** The edges of promises 26 to 29, and of what "Texts" says. */
public final class TextEdgesTest {
    private static final String POINTS = "sink(0, 0); sink(4, 0); sink(0, 4); sink(9, 9); sink(20, 3); sink(30, 7); "
        + "sink(41, 2); sink(50, 50); ";
    private static final String THREE = sinks(3) + "joins(2, 1) = 8; ";
    private static final String ALL_ORDERED = sinks(8) + Script.typed("(((01)(23))((45)(67)))") + """
        builds() = 7; node(8, 0) = 0; node(9, 0) = 2; node(10, 0) = 8; node(10, 1) = 9; node(11, 0) = 4; node(12, 0) = 6;
        node(13, 0) = 11; node(13, 1) = 12; node(14, 0) = 10; node(14, 1) = 13; tops() = 1; told(8) = 22
        """;
    private static final int TEXT_BYTES = 60;

    public static void main(String[] args) {
        typing();
        fullText();
        clearing();
        everyByte();
        everySink();
        endsTooEarly();
        behindThePart();
        blanks();
        longTexts();
        building();
        faultsChangeNothing();
        showing();
        Script.finish();
    }

    private static String sinks(int count) {
        StringBuilder calls = new StringBuilder();
        for (int k = 0; k < count; k++) {
            calls.append(POINTS.split(";")[k]).append("; ");
        }
        return calls.toString();
    }

    private static void typing() {
        Edges.range("26: the byte, 0 to 127", Edges.BUSY, "type(%)", 0, 127);
        Script.check("26: how many bytes the text has then", "type(0) = 1; type(127) = 2; told(8) = 2; type(128) = -2; "
            + "type(-1) = -2; told(8) = 2; type(32) = 3; told(8) = 3; told(9) = 0");
        Script.check("26: a byte out of range is not cut to one in range", sinks(1)
            + "type(304) = -2; type(-208) = -2; type(65584) = -2; told(8) = 0; type(48) = 1; builds() = 0");
    }

    private static void fullText() {
        String almost = sinks(2) + Script.typed("(0 1)" + " ".repeat(54));
        Script.check("26: the sixtieth byte", almost + "type(32) = 60; told(8) = 60; builds() = 1");
        Edges.refused("26: FULL if the text has 60 bytes already", almost + "type(32) = 60; ", "type(32)", Edges.FULL);
        Edges.refusedEach("26: FULL if the text has 60 bytes already", Edges.CROWD, "type(%)", Edges.FULL, 0, 32, 48, 127);
        Script.check("26: what does not fit is not in the text", almost + "type(32) = 60; type(48) = -4; builds() = 1; clear() = 60; "
            + "type(48) = 1; builds() = 0");
    }

    private static void clearing() {
        Edges.asked("27: an empty text", Edges.EMPTY, "clear()", "0");
        Script.check("27: one byte", "type(40) = 1; clear() = 1; told(8) = 0; clear() = 0; told(9) = 0");
        Script.check("27: sixty bytes", Edges.CROWD + "clear() = 60; told(8) = 0; type(48) = 1; builds() = 0; node(14, 0) = -2");
        Script.check("27: not undone", sinks(1) + "type(48) = 1; clear() = 1; told(9) = 1; back() = 0; told(8) = 0");
    }

    /** Behind each beginning, each byte either cannot stand there, or the fault comes later. */
    private static void everyByte() {
        canStand("", " (012");
        canStand(" ", " (012");
        canStand("(", " (012");
        canStand("((", " (012");
        canStand("(0", " (12");
        canStand("(2 ", " (01");
        canStand("(01", " )");
        canStand("(0 1 ", " )");
        canStand("((01)", " (2");
        canStand("((01)2", " )");
        canStand("(0(", " (12");
        canStand("(0(1", " (2");
        canStand("(0(12", " )");
        canStand("(0(12)", " )");
        // Behind the part.
        canStand("0", " ");
        canStand("2 ", " ");
        canStand("(01)", " ");
        canStand("((01)2)", " ");
        // All sinks have occurred, but more parts are needed.
        canStand("((01)(2", " (");
    }

    private static void canStand(String beginning, String allowed) {
        String setUp = THREE + Script.typed(beginning);
        for (int c = 0; c <= 127; c++) {
            ClockWires object = Script.made("28: '" + beginning + "'", setUp + "type(" + c + "); ");
            int answer = object.builds();
            String name = "28: '" + beginning + "' and then the byte " + c + " (answered " + answer + "): it can stand there";
            Script.due(name, answer == -10 - beginning.length() ? 0 : 1, allowed.indexOf(c) >= 0 ? 1 : 0);
        }
    }

    private static void everySink() {
        for (int count = 0; count <= 8; count++) {
            for (int digit = 0; digit <= 9; digit++) {
                Script.check("28: the digit " + digit + " with " + count + " sinks", sinks(count) + "type(" + (48 + digit)
                    + ") = 1; builds() = " + (digit < count ? 0 : -10) + "; told(0) = 0; told(1) = 0; told(2) = 0");
            }
        }
        fault("28: a sink that has occurred already", "(00)", 2);
        fault("28: a sink that has occurred already", "(0(10))", 4);
        fault("28: a sink that has occurred already", "((01)1)", 5);
        fault("28: a sink that does not exist", "(03)", 2);
        fault("28: a sink that does not exist", "(8 0)", 1);
        fault("28: a sink that was undone does not exist", sinks(3) + "sink(60, 60) = 3; back() = 3; ", "(03)", 2);
    }

    private static void endsTooEarly() {
        fault("28: it ends too early: empty", "", 0);
        fault("28: it ends too early: blanks", "    ", 4);
        fault("28: it ends too early: no part", "(", 1);
        fault("28: it ends too early: no second part", "(0", 2);
        fault("28: it ends too early: no parenthesis", "(01", 3);
        fault("28: it ends too early: blanks at its end", "(01  ", 5);
        fault("28: it ends too early: the outer parenthesis", "((01)2", 6);
        fault("28: it ends too early: the outer second part", "((01)", 5);
        fault("28: it ends too early: no sink left for it", "((01)(2", 7);
        whole("28: it does not end too early", "0", 0);
        whole("28: it does not end too early", "(01)", 1);
        whole("28: it does not end too early", "((01)2)", 2);
    }

    private static void behindThePart() {
        fault("28: anything but blanks after the part", "01", 1);
        fault("28: anything but blanks after the part", "0 1", 2);
        fault("28: anything but blanks after the part", "(01)2", 4);
        fault("28: anything but blanks after the part", "(01) (", 5);
        fault("28: anything but blanks after the part", "(01))", 4);
        fault("28: anything but blanks after the part", "0)", 1);
        fault("28: the first of several faults", "(3)0)x", 1);
        whole("28: blanks after the part", "(01)   ", 1);
        whole("28: blanks after the part", "0   ", 0);
    }

    private static void blanks() {
        String text = "((01)2)";
        for (int i = 0; i <= text.length(); i++) {
            whole("28: a blank may stand anywhere", text.substring(0, i) + " " + text.substring(i), 2);
        }
        whole("28: blanks may stand everywhere", "  (  (  0  1  )  2  )  ", 2);
        for (int c : new int[] {9, 10, 13, 31, 33, 95, 127}) {
            fault("28: byte " + c + " is no blank", "(0" + (char) c + "1)", 2);
        }
    }

    private static void longTexts() {
        whole("28: a text of 60 bytes", " ".repeat(53) + "((01)2)", 2);
        whole("28: a text of 60 bytes", "((01)2)" + " ".repeat(53), 2);
        whole("28: a text of 60 bytes", "((01)" + " ".repeat(53) + "2)", 2);
        fault("28: 60 bytes that end too early", " ".repeat(TEXT_BYTES), 60);
        fault("28: 60 bytes that end too early", "(".repeat(TEXT_BYTES), 60);
        fault("28: 60 bytes that end too early", " ".repeat(54) + "((01)2", 60);
        fault("28: the last of 60 bytes", " ".repeat(53) + "((01)22", 59);
        fault("28: the last of 60 bytes", "(".repeat(59) + ")", 59);
        fault("28: the last of 60 bytes", "2" + " ".repeat(58) + "2", 59);
    }

    private static void building() {
        Edges.done("28: no joints", THREE + Script.typed("1"), "builds()", "0");
        Edges.done("28: fewer joints than before", Edges.BUSY + "clear() = 7; " + Script.typed("(40)"), "builds()", "1");
        Edges.done("28: as many joints as before", Edges.BUSY, "builds()", "2");
        Edges.done("28: the same joints again", Edges.WHOLE + "clear() = 4; " + Script.typed("((01)2)"), "builds()", "2");
        Edges.done("28: as many joints as there can be", sinks(8) + Script.typed("(((01)(23))((45)(67)))"), "builds()", "7");
        Script.check("28: numbered from 8 on, in the order of their closing parentheses", ALL_ORDERED);
        Script.check("28: sinks that do not occur are tops", Edges.BUSY
            + "builds() = 2; tops() = 3; node(3, 2) = -1; node(4, 2) = -1; node(8, 0) = 1; node(8, 1) = 2; node(9, 0) = 0; "
            + "node(9, 1) = 8; node(10, 0) = -2; told(8) = 7");
    }

    private static void faultsChangeNothing() {
        String rule = "28: with a fault nothing changes, and this is not counted";
        Edges.asked(rule + ", an empty text", THREE, "builds()", "-10");
        Edges.asked(rule + ", a fault at the beginning", THREE + Script.typed(")"), "builds()", "-10");
        Edges.asked(rule + ", a fault at the end", THREE + Script.typed("((01)2"), "builds()", "-16");
        Edges.asked(rule + ", a fault behind joints", THREE + Script.typed("((01)2)1"), "builds()", "-17");
        Edges.asked(rule + ", the greatest fault", THREE + Script.typed("(".repeat(TEXT_BYTES)), "builds()", "-70");
        Edges.asked(rule + ", no sinks", Script.typed("0"), "builds()", "-10");
        Edges.asked(rule + ", eight saved states", Edges.BUSY + "type(41) = 8; ", "builds()", "-17");
    }

    private static void fault(String rule, String text, int index) {
        fault(rule, THREE, text, index);
    }

    private static void fault(String rule, String setUp, String text, int index) {
        Script.check(rule + " '" + text + "'", setUp + Script.typed(text) + "builds() = " + (-10 - index)
            + "; told(0) = 0; told(1) = 0; told(2) = 0; told(8) = " + text.length());
    }

    private static void whole(String rule, String text, int joints) {
        Script.check(rule + " '" + text + "'", THREE + Script.typed(text) + "builds() = " + joints + "; told(4) = " + joints
            + "; told(9) = 5; told(8) = " + text.length());
    }

    private static void showing() {
        Edges.refusedEach("29: BAD if there is no such node", Edges.BUSY, "shown(%, 0)", Edges.BAD, Edges.NO_NODE_OF_BUSY);
        Edges.refused("29: BAD if there is no such node", Edges.BUSY, "shown(-1, 0)", Edges.BAD);
        Edges.refusedEach("29: BAD if i is negative", Edges.BUSY, "shown(10, %)", Edges.BAD, -1, -2, Edges.LOWEST);
        for (int[] edge : new int[][] {{0, 1}, {2, 1}, {8, 4}, {10, 7}}) {
            Edges.asked("29: NONE if the text has not so many bytes", Edges.BUSY, "shown(" + edge[0] + ", " + edge[1] + ")", "-1");
        }
        Edges.asked("29: NONE, however great i is", Edges.BUSY, "shown(10, 2147483647)", "-1");
        Edges.asked("29: the digit of a sink", Edges.BUSY, "shown(4, 0)", "52");
        Edges.asked("29: the first byte", Edges.BUSY, "shown(10, 0)", "40");
        Edges.asked("29: the last byte", Edges.BUSY, "shown(10, 6)", "41");
        Script.check("29: without blanks, a whole text", Edges.BUSY + Script.shows(10, "((01)4)") + Script.shows(8, "(01)"));
        for (String text : new String[] {"(((01)(23))((45)(67)))", "(((((((01)2)3)4)5)6)7)", "(7(6(5(4(3(2(10)))))))"}) {
            Script.check("29: the longest text", sinks(8) + Script.typed(text) + "builds() = 7; " + Script.shows(14, text)
                + "shown(14, 22) = -1; shown(14, 21) = 41");
        }
    }
}

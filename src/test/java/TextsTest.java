/** Promises 26 to 29: the text, what it builds, and what is shown. */
public final class TextsTest {
    private static final String THREE = "sink(0, 0) = 0; sink(4, 0) = 1; sink(0, 4) = 2; ";

    public static void main(String[] args) {
        typing();
        clearing();
        building();
        replacing();
        faults();
        showing();
        Script.finish();
    }

    private static void typing() {
        Script.check("promise 26", """
            type(0) = 1; type(127) = 2; type(-1) = -2; type(128) = -2; type(2147483647) = -2; told(8) = 2; told(0) = 3;
            told(9) = 0
            """);
        Script.check("promise 26, full", Script.typed(" ".repeat(60)) + """
            type(48) = -4; type(128) = -2; told(8) = 60; told(2) = 1; told(0) = 1; builds() = -70; clear() = 60;
            type(48) = 1
            """);
    }

    private static void clearing() {
        Script.check("promise 27", "clear() = 0; sink(1, 1) = 0; " + Script.typed("(0") + """
            clear() = 2; told(8) = 0; clear() = 0; type(48) = 1; builds() = 0; told(9) = 2; clear() = 1; told(9) = 2
            """);
    }

    private static void building() {
        Script.check("promise 28, in the order of the closing parentheses", THREE + "sink(4, 4) = 3; "
            + Script.typed("((01)(23))") + """
            builds() = 3; node(8, 0) = 0; node(8, 1) = 1; node(9, 0) = 2; node(9, 1) = 3; node(10, 0) = 8;
            node(10, 1) = 9; told(8) = 10; told(9) = 5; tops() = 1; back() = 4; tops() = 4; told(8) = 10
            """);
        Script.check("promise 28, the first part is the left child", THREE + Script.typed(" ( 2 ( 1 0 ) ) ") + """
            builds() = 2; node(8, 0) = 1; node(8, 1) = 0; node(9, 0) = 2; node(9, 1) = 8
            """);
        Script.check("promise 28, not all sinks", THREE + Script.typed("(20)") + """
            builds() = 1; tops() = 2; node(1, 2) = -1; node(8, 0) = 2; builds() = 1; told(9) = 5
            """);
        Script.check("promise 28, all eight sinks", """
            sink(0, 0) = 0; sink(1, 0) = 1; sink(2, 0) = 2; sink(3, 0) = 3; sink(4, 0) = 4; sink(5, 0) = 5;
            sink(6, 0) = 6; sink(7, 0) = 7;
            """ + Script.typed("(0(1(2(3(4(5(67)))))))") + "builds() = 7; node(8, 0) = 6; node(14, 0) = 0; tops() = 1; "
            + Script.shows(14, "(0(1(2(3(4(5(67)))))))"));
    }

    private static void replacing() {
        Script.check("promise 28, all joints are replaced", THREE + "joins(0, 1) = 8; joins(8, 2) = 9; type(49) = 1; "
            + """
            builds() = 0; told(4) = 0; tops() = 3; node(0, 2) = -1; back() = 5; told(4) = 2; node(9, 0) = 8; clear() = 1;
            """ + Script.typed("(12)") + "builds() = 1; node(8, 0) = 1; node(0, 2) = -1; told(4) = 1; tops() = 2");
    }

    private static void faults() {
        fault("", 0);
        fault("   ", 3);
        fault("3", 0);
        fault(" 8", 1);
        fault("9", 0);
        fault("/", 0);
        fault(":", 0);
        fault("\0", 0);
        fault("00", 1);
        fault("0(", 1);
        fault("0 )", 2);
        fault("01", 1);
        fault(")", 0);
        fault("()", 1);
        fault("(0)", 2);
        fault("(0)1", 2);
        fault("(", 1);
        fault("( ", 2);
        fault("(0", 2);
        fault("(01", 3);
        fault("(01 ", 4);
        fault("(012)", 3);
        fault("(01(", 3);
        fault("((01)0)", 5);
        fault("((01)", 5);
        fault("((01)2", 6);
        fault("(01))", 4);
        fault("(01)2", 4);
        fault("(01)(", 4);
        fault("(01) x", 5);
        fault("(0\t1)", 2);
        fault("(0,1)", 2);
        fault("((((((((((0", 11);
        fault("(".repeat(60), 60);
        fault("(".repeat(59) + "3", 59);
        fault(" ".repeat(55) + "(0 1 ", 60);
        whole("2", 0);
        whole("  2 ", 0);
        whole("(0 1)", 1);
        whole("((01)2)", 2);
        whole(" ".repeat(55) + "(2 1)", 1);
    }

    private static void fault(String text, int index) {
        Script.check("promise 28, the text '" + text + "'", THREE + "joins(2, 1) = 8; " + Script.typed(text)
            + "builds() = " + (-10 - index) + "; told(0) = 0; told(1) = 0; told(2) = 0; told(9) = 4; told(8) = "
            + text.length() + "; told(4) = 1; node(8, 0) = 2");
    }

    private static void whole(String text, int joints) {
        Script.check("promise 28, the text '" + text + "'", THREE + "joins(2, 1) = 8; " + Script.typed(text)
            + "builds() = " + joints + "; told(9) = 5; told(8) = " + text.length() + "; told(4) = " + joints);
    }

    private static void showing() {
        Script.check("promise 29", THREE + "joins(2, 0) = 8; joins(1, 8) = 9; " + Script.shows(9, "(1(20))")
            + Script.shows(8, "(20)") + Script.shows(0, "0") + Script.shows(2, "2") + """
            shown(9, 2147483647) = -1; shown(9, -1) = -2; shown(10, 0) = -2; shown(3, 0) = -2; shown(-1, 0) = -2;
            shown(15, 0) = -2; shown(9, -2147483648) = -2; told(0) = 6; told(9) = 5; cuts(2) = 8;
            """ + Script.shows(9, "(10)"));
    }
}

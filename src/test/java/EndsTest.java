/** Promises 1 to 9: a new object, sinks, skew and source. */
public final class EndsTest {
    private static final String EIGHT_SINKS = """
        sink(0, 0) = 0; sink(1, 0) = 1; sink(2, 0) = 2; sink(3, 0) = 3;
        sink(4, 0) = 4; sink(5, 0) = 5; sink(6, 0) = 6; sink(7, 0) = 7;
        """;

    public static void main(String[] args) {
        newObject();
        sinks();
        moves();
        settings();
        skewAndSource();
        properties();
        touching();
        points();
        Script.finish();
    }

    private static void newObject() {
        Script.check("promise 1", """
            told(0) = 0; told(1) = 0; told(2) = 0; told(3) = 0; told(4) = 0; told(5) = 0; told(6) = 0; told(7) = 0;
            told(8) = 0; told(9) = 0; tops() = 0; total(0) = 0; clear() = 0; touched(0) = -1; nearest() = -1;
            end(0, 0) = -2; node(0, 0) = -2; node(8, 0) = -2; back() = -3; told(0) = 3; told(1) = 1
            """);
        Script.due("promise 1: two objects share nothing", shared(), 0);
    }

    private static long shared() {
        ClockWires one = new ClockWires();
        ClockWires other = new ClockWires();
        one.sink(1, 1);
        one.skew(5);
        one.type(40);
        one.told(99);
        return other.told(0) + other.told(3) + other.told(5) + other.told(8) + other.told(9);
    }

    private static void sinks() {
        Script.check("promise 2", """
            sink(0, 0) = 0; sink(63, 63) = 1; sink(0, 63) = 2; sink(63, 0) = 3; tops() = 4; told(3) = 4; told(9) = 4;
            sink(-1, 0) = -2; sink(0, -1) = -2; sink(64, 0) = -2; sink(0, 64) = -2;
            sink(2147483647, 0) = -2; sink(0, -2147483648) = -2; told(0) = 6;
            sink(63, 63) = -3; told(1) = 1; told(3) = 4; told(9) = 4;
            end(1, 0) = 63; end(1, 1) = 63; end(1, 2) = 0; end(1, 3) = 1;
            back() = 3; told(3) = 3; at(63, 0) = -1; sink(9, 9) = 3
            """);
        Script.check("promise 2, full", EIGHT_SINKS + """
            sink(8, 0) = -4; told(2) = 1; told(3) = 8; sink(7, 0) = -3; sink(64, 0) = -2; sink(8, 0) = -4;
            told(0) = 1; told(1) = 1; told(2) = 2; told(9) = 8; at(8, 0) = -1
            """);
        Script.check("promise 2, a sink beside a joint is a top", """
            sink(0, 0) = 0; sink(4, 0) = 1; joins(0, 1) = 8; tops() = 1; sink(9, 9) = 2; tops() = 2; node(2, 2) = -1;
            node(8, 0) = 0; back() = 3; tops() = 1
            """);
    }

    private static void moves() {
        Script.check("promise 3", """
            sink(1, 1) = 0; sink(9, 9) = 1;
            moves(0, 5, 2) = 5u; end(0, 0) = 5; end(0, 1) = 2; moves(0, 0, 10) = 13u; moves(0, 0, 10) = 0; told(9) = 5;
            moves(0, 9, 9) = -3; moves(2, 3, 3) = -2; moves(-1, 3, 3) = -2; moves(8, 3, 3) = -2;
            moves(0, 64, 0) = -2; moves(0, 0, 64) = -2; moves(0, -1, 0) = -2; moves(0, 0, -1) = -2;
            moves(2, 9, 9) = -2; told(0) = 8; told(1) = 1; told(9) = 5; end(0, 1) = 10;
            moves(0, 63, 63) = 116u; moves(0, 0, 0) = 126u;
            back() = 6; end(0, 0) = 63; back() = 5; back() = 4; back() = 3; end(0, 0) = 5; end(0, 1) = 2
            """);
        Script.check("promise 3, the regions follow", """
            sink(0, 0) = 0; sink(4, 2) = 1; joins(0, 1) = 8; node(8, 10) = 6u; moves(1, 8, 0) = 6u;
            node(8, 10) = 8u; node(8, 3) = 4u; node(8, 6) = 4u; back() = 3; node(8, 10) = 6u
            """);
    }

    private static void settings() {
        Script.check("promise 4", """
            sink(1, 1) = 0; sets(0, 0, 99) = 0; sets(0, 0, 0) = 99; sets(0, 0, 7) = 0; sets(0, 0, 7) = 7;
            sets(0, 1, 9) = 1; sets(0, 1, 1) = 9; sets(0, 1, 3) = 1; end(0, 2) = 7; end(0, 3) = 3; told(9) = 8;
            sets(0, 0, 100) = -2; sets(0, 0, -1) = -2; sets(0, 1, 0) = -2; sets(0, 1, 10) = -2; sets(0, 2, 5) = -2;
            sets(0, -1, 5) = -2; sets(1, 0, 5) = -2; sets(-1, 0, 5) = -2; sets(8, 1, 5) = -2; told(0) = 9;
            end(0, 2) = 7; end(0, 3) = 3; back() = 7; end(0, 3) = 1; back() = 6; end(0, 3) = 9;
            node(0, 7) = 7u; node(0, 8) = 7u; back() = 5; back() = 4; back() = 3; node(0, 7) = 0
            """);
    }

    private static void skewAndSource() {
        Script.check("promise 5", """
            skew(99) = 0; skew(0) = 99; skew(10) = 0; skew(10) = 10; skew(-1) = -2; skew(100) = -2; told(0) = 2;
            told(5) = 10; told(9) = 4; back() = 3; back() = 2; told(5) = 0; back() = 1; told(5) = 99
            """);
        Script.check("promise 6", """
            source(5, 5) = 10u; source(5, 5) = 0; source(0, 63) = 63u; source(63, 0) = 126u; told(6) = 63; told(7) = 0;
            source(64, 0) = -2; source(0, 64) = -2; source(-1, 0) = -2; source(0, -1) = -2; told(0) = 4; told(9) = 4;
            told(6) = 63; back() = 3; told(6) = 0; told(7) = 63; back() = 2; back() = 1; told(6) = 5
            """);
    }

    private static void properties() {
        Script.check("promise 7", """
            sink(3, 4) = 0; sets(0, 0, 8) = 0; sets(0, 1, 2) = 1;
            end(0, 0) = 3; end(0, 1) = 4; end(0, 2) = 8; end(0, 3) = 2;
            end(0, 4) = -2; end(0, -1) = -2; end(1, 0) = -2; end(-1, 0) = -2; end(8, 0) = -2; end(2147483647, 0) = -2;
            told(0) = 6; told(9) = 3
            """);
    }

    private static void touching() {
        Script.check("promise 8", """
            sink(0, 0) = 0; sink(1, 0) = 1; sink(2, 0) = 2; touched(0) = 2; touched(1) = 1; touched(2) = 0;
            touched(3) = -1; touched(8) = -1; touched(2147483647) = -1; touched(-1) = -2; touched(-2147483648) = -2;
            told(0) = 2; moves(1, 1, 0) = 0; touched(0) = 1; touched(1) = 2; touched(2) = 0;
            sets(0, 0, 0) = 0; touched(0) = 0; touched(1) = 1; touched(2) = 2;
            sets(0, 1, 4) = 1; touched(0) = 0; touched(1) = 1; sets(2, 0, 100) = -2; moves(2, 0, 0) = -3;
            touched(0) = 0; pairs() = 2; skew(3) = 0; source(9, 9) = 18u; touched(0) = 0; touched(1) = 1;
            back() = 7; back() = 6; back() = 5; back() = 4; back() = 3; touched(0) = 1; touched(1) = 2; touched(2) = 0;
            back() = 2; touched(0) = 2
            """);
        Script.check("promise 8, eight sinks", EIGHT_SINKS + """
            touched(7) = 0; touched(8) = -1; moves(0, 0, 1) = 1u; touched(0) = 0; touched(1) = 7; touched(7) = 1
            """);
    }

    private static void points() {
        Script.check("promise 9", """
            sink(0, 0) = 0; sink(63, 63) = 1; at(0, 0) = 0; at(63, 63) = 1; at(0, 63) = -1; at(63, 0) = -1;
            at(-1, 0) = -2; at(0, -1) = -2; at(64, 0) = -2; at(0, 64) = -2; told(0) = 4;
            moves(0, 5, 6) = 11u; at(0, 0) = -1; at(5, 6) = 0; at(6, 5) = -1; back() = 2; at(0, 0) = 0
            """);
    }
}

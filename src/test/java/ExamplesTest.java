/** The five examples of the document, word for word. */
public final class ExamplesTest {
    public static void main(String[] args) {
        Script.check("example 1", """
            sink(0, 0) = 0; sink(10, 0) = 1; sink(4, 6) = 2; sets(2, 0, 9) = 0;
            nearest() = 1; pairs() = 2; node(8, 9) = 360448; node(8, 3) = 327680; total(0) = 1114112; total(3) = 0;
            arrival(0) = 1245184; arrival(2) = 1245184; place(8, 2) = 0; shown(9, 0) = 40; touched(0) = 2; back() = 4
            """);
        Script.check("example 2", """
            sink(1, 1) = 0; sink(1, 1) = -3; moves(0, 5, 2) = 327680; arrival(0) = 458752;
            slow(0) = 270582939648; joins(0, 0) = -2; sink(9, 9) = 1; would(0, 1, 0) = 720896; joins(1, 0) = 8;
            node(8, 0) = 1; cuts(8) = -3; cuts(0) = 8; cuts(0) = -3; told(1) = 3; least(1) = 1; betters() = 0
            """);
        Script.check("example 3", """
            sink(0, 0) = 0; sink(20, 0) = 1; sink(0, 20) = 2; sink(20, 20) = 3;
            type(40) = 1; type(40) = 2; type(48) = 3; type(51) = 4; type(41) = 5; type(40) = 6; type(49) = 7;
            type(50) = 8; type(41) = 9; type(41) = 10; builds() = 3; betters() = 1310720
            """);
        Script.check("example 4", """
            sink(3, 3) = 0; type(40) = 1; type(48) = 2; type(32) = 3; type(49) = 4; builds() = -13;
            clear() = 4; builds() = -10; grafts(0, -1) = -3; grafts(0, 0) = -3; grafts(5, -1) = -2;
            total(1) = 393216; source(5, 5) = 655360; total(1) = 262144; skew(100) = -2; told(0) = 2
            """);
        Script.check("example 5", """
            pairs() = -3; least(0) = -3; total(0) = 0; total(2) = -1; tops() = 0;
            nearest() = -1; back() = -3; frees() = 0; told(9) = 1; touched(-1) = -2; touched(0) = -1; at(64, 0) = -2;
            at(0, 0) = -1; exchanges(0, 1) = -2; sink(64, 0) = -2; digest() = -9194534679993422416
            """);
        Script.finish();
    }
}

import java.util.ArrayList;
import java.util.Arrays;
import java.util.List;

/** Promises 30 to 32: undo, the counts, and the checksum. */
public final class UndoTest {
    private static final String NINE_SKEWS = """
        skew(1) = 0; skew(2) = 1; skew(3) = 2; skew(4) = 3; skew(5) = 4; skew(6) = 5; skew(7) = 6; skew(8) = 7;
        skew(9) = 8;
        """;

    public static void main(String[] args) {
        limits();
        everyMethod();
        counts();
        digests();
        Script.finish();
    }

    private static void limits() {
        Script.check("promise 30, the oldest are lost", NINE_SKEWS + """
            told(9) = 8; back() = 7; told(5) = 8; back() = 6; back() = 5; back() = 4; back() = 3; back() = 2; back() = 1;
            back() = 0; told(5) = 1; back() = -3; told(5) = 1; told(1) = 1; told(9) = 0; skew(44) = 1; back() = 0;
            told(5) = 1
            """);
        Script.check("promise 30, again and again", NINE_SKEWS + """
            back() = 7; back() = 6; back() = 5; skew(20) = 6; skew(21) = 20; told(9) = 7; skew(22) = 21; skew(23) = 22;
            told(9) = 8; back() = 7; told(5) = 22; back() = 6; back() = 5; back() = 4; told(5) = 6; back() = 3;
            told(5) = 5; back() = 2; back() = 1; back() = 0; told(5) = 2; back() = -3
            """);
        Script.check("promise 30, the text and the counts stay", """
            sink(1, 1) = 0; type(40) = 1; sink(1, 1) = -3; sink(64, 1) = -2; back() = 0; told(8) = 1; told(0) = 1;
            told(1) = 1; told(3) = 0; back() = -3; told(1) = 2; clear() = 1; back() = -3; told(8) = 0
            """);
        Script.check("promise 30, errors are not saved", """
            sink(1, 1) = 0; sink(1, 1) = -3; moves(5, 0, 0) = -2; sets(0, 0, 100) = -2; skew(100) = -2;
            source(64, 0) = -2; joins(0, 0) = -2; cuts(0) = -3; grafts(0, -1) = -3; exchanges(0, 0) = -3;
            builds() = -10; told(9) = 1; back() = 0
            """);
    }

    /** Each method that can be undone, on the prepared tree, where each of them changes something. */
    private static void everyMethod() {
        undoes("sink", 50, 50);
        undoes("moves", 1, 9, 9);
        undoes("moves", 1, 4, 0);
        undoes("sets", 0, 0, 9);
        undoes("sets", 0, 1, 9);
        undoes("skew", 7);
        undoes("source", 7, 8);
        undoes("joins", 9, 4);
        undoes("pairs");
        undoes("frees");
        undoes("cuts", 0);
        undoes("cuts", 8);
        undoes("grafts", 4, 0);
        undoes("grafts", 9, -1);
        undoes("exchanges", 0, 1);
        undoes("betters");
        undoes("builds");
    }

    private static ClockWires prepared() {
        ClockWires object = new ClockWires();
        int[][] points = {{0, 0}, {4, 0}, {20, 20}, {30, 9}, {2, 1}};
        for (int[] point : points) {
            object.sink(point[0], point[1]);
        }
        object.joins(0, 2);
        object.joins(1, 3);
        // Leaves the joints 8 and 9, and the tops 3, 4 and 9.
        object.cuts(3);
        object.joins(8, 1);
        for (char c : "((43)(10))".toCharArray()) {
            object.type(c);
        }
        return object;
    }

    private static void undoes(String name, int... arguments) {
        ClockWires object = prepared();
        List<Long> before = view(object);
        String what = "promise 30, undoing " + name + Arrays.toString(arguments);
        Script.due(what + ": the states before", object.told(9), 8);
        Script.invoke(object, name, arguments);
        List<Long> after = view(object);
        Script.due(what + ": it changed something", before.equals(after) ? 0 : 1, 1);
        Script.due(what + ": back", object.back(), 7);
        Script.due(what + ": the state is as before", view(object).equals(before) ? 1 : 0, 1);
    }

    /** All that undo restores, as the public calls tell it. */
    private static List<Long> view(ClockWires object) {
        List<Long> all = new ArrayList<>();
        for (int what = 3; what <= 7; what++) {
            all.add((long) object.told(what));
        }
        for (int k = 0; k < 8; k++) {
            all.add((long) object.touched(k));
            for (int what = 0; what <= 3; what++) {
                all.add((long) object.end(k, what));
            }
        }
        for (int n = 0; n < 15; n++) {
            for (int what = 0; what <= 11; what++) {
                all.add((long) object.node(n, what));
            }
        }
        return all;
    }

    private static void counts() {
        Script.check("promise 31", """
            sink(1, 1) = 0; sink(9, 1) = 1; sink(5, 9) = 2; joins(0, 1) = 8; skew(12) = 0; source(33, 44) = 77u;
            type(40) = 1; type(41) = 2; told(0) = 0; told(1) = 0; told(2) = 0; told(3) = 3; told(4) = 1; told(5) = 12;
            told(6) = 33; told(7) = 44; told(8) = 2; told(9) = 6; told(10) = -2; told(-1) = -2; told(0) = 2;
            told(2147483647) = -2; told(0) = 3; nearest() = 40; touched(9) = -1; at(0, 0) = -1; node(0, 0) = -1;
            total(1) = -1; builds() = -11; told(0) = 3; told(1) = 0; told(2) = 0
            """);
        countsEachError();
    }

    private static void countsEachError() {
        Script.check("promise 31, every method counts its errors", """
            sink(-1, 0) = -2; moves(0, 0, 0) = -2; sets(0, 0, 0) = -2; skew(-1) = -2; source(-1, 0) = -2; end(0, 0) = -2;
            touched(-1) = -2; at(-1, 0) = -2; joins(0, 1) = -2; cuts(0) = -2; grafts(0, 1) = -2; exchanges(0, 1) = -2;
            node(0, 0) = -2; would(0, 1, 0) = -2; least(2) = -2; place(0, 0) = -2; arrival(0) = -2; slow(0) = -2;
            total(5) = -2; type(-1) = -2; shown(0, 0) = -2; told(10) = -2; told(0) = 22; told(1) = 0; pairs() = -3;
            least(0) = -3; back() = -3; told(1) = 3; sink(0, 0) = 0; sink(1, 0) = 1; sink(0, 0) = -3;
            moves(0, 1, 0) = -3; cuts(0) = -3; grafts(0, 0) = -3; exchanges(0, 1) = -3; place(0, 0) = -3;
            arrival(0) = -3; slow(0) = -3; joins(0, 1) = 8; joins(0, 1) = -3; told(1) = 12; told(0) = 22; told(2) = 0
            """);
    }

    private static void digests() {
        ClockWires empty = new ClockWires();
        Script.due("promise 32, a new object", empty.digest(), folded(empty));
        ClockWires object = prepared();
        Script.due("promise 32, several tops", object.digest(), folded(object));
        object.sink(64, 0);
        object.sink(0, 0);
        object.pairs();
        object.skew(3);
        object.source(7, 9);
        object.sets(1, 1, 5);
        Script.due("promise 32, a whole tree", object.digest(), folded(object));
        Script.due("promise 32, asking changes nothing", object.digest(), object.digest());
        Script.due("promise 32, no errors come of it", object.told(0) + object.told(1), 2);
    }

    private static long folded(ClockWires object) {
        List<Long> numbers = new ArrayList<>();
        for (int what = 0; what <= 9; what++) {
            numbers.add((long) object.told(what));
        }
        int sinks = object.told(3);
        for (int k = 0; k < sinks; k++) {
            for (int what = 0; what <= 3; what++) {
                numbers.add((long) object.end(k, what));
            }
        }
        int joints = object.told(4);
        for (int n = 0; n < 8 + joints; n++) {
            if (n < sinks || n >= 8) {
                numbers.add((long) n);
                for (int what = 0; what <= 10; what++) {
                    numbers.add((long) object.node(n, what));
                }
            }
        }
        for (int what = 0; what <= 4; what++) {
            numbers.add((long) object.total(what));
        }
        long h = 1680;
        for (long number : numbers) {
            h = 31 * h + number;
        }
        return h;
    }
}

import java.util.ArrayList;
import java.util.HashMap;
import java.util.List;
import java.util.Map;

/**
 * One call at the edge of what the document allows: its answer, and all that it changed or left alone.
 * Each comparison has a new object, so that none of them comes near its 512th call.
 */
final class Edges {
    static final int NONE = -1, BAD = -2, NO = -3, FULL = -4;
    static final int LOWEST = Integer.MIN_VALUE, HIGHEST = Integer.MAX_VALUE;

    static final String EMPTY = "";
    /** No sinks, but a text and counts. */
    static final String TEXT_ALONE = Script.typed("(0)") + "told(10) = -2; back() = -3; ";
    /** Two sinks that are tops, and three calls that can be undone. */
    static final String FEW = "sink(5, 5) = 0; sink(9, 1) = 1; skew(4) = 0; type(48) = 1; ";
    /** The sinks 0 to 4, the joints 8 and 10, the tops 2, 3 and 10; eight saved states; no value as at first. */
    static final String BUSY = """
        sink(10, 10) = 0; sink(14, 12) = 1; sink(30, 8) = 2; sink(22, 40) = 3; sink(3, 50) = 4;
        sets(0, 0, 7) = 0; sets(1, 1, 4) = 1; skew(5) = 0; source(20, 33); joins(0, 1) = 8; joins(2, 3) = 9;
        joins(8, 4) = 10; cuts(2) = 9; told(10) = -2; told(10) = -2; exchanges(2, 2) = -3;
        """ + Script.typed("(0(12))");
    /** The sinks 0 to 2 in a whole tree with the joints 8 and 9, and a loop; six saved states. */
    static final String WHOLE = """
        sink(0, 2) = 0; sink(4, 0) = 1; sink(9, 9) = 2; sets(2, 0, 40) = 0; joins(0, 1) = 8; joins(8, 2) = 9;
        told(-1) = -2;
        """ + Script.typed("(20)");
    /** As many sinks, joints, bytes of the text and saved states as there can be. */
    static final String CROWD = """
        sink(0, 0) = 0; sink(8, 1) = 1; sink(16, 4) = 2; sink(24, 9) = 3; sink(32, 16) = 4; sink(40, 25) = 5;
        sink(48, 36) = 6; sink(56, 49) = 7; pairs() = 7;
        """ + Script.typed("(0 1)" + " ".repeat(55));

    /** Numbers that name no sink of BUSY: the joints are none either. */
    static final int[] NO_SINK_OF_BUSY = {LOWEST, -2, -1, 5, 7, 8, 10, 14, 15, HIGHEST};
    /** Numbers that name no node of BUSY; 9 did, before it was removed. NONE is left out: for grafts it means more. */
    static final int[] NO_NODE_OF_BUSY = {LOWEST, -2, 5, 7, 9, 11, 14, 15, 16, HIGHEST};

    private static final int SAVES = 8;
    /** One more than can succeed. */
    private static final int BACKS = SAVES + 1;
    private static final int READ_TEXT = BACKS + 1;
    private static final Map<String, List<List<Long>>> UNTOUCHED = new HashMap<>();

    private Edges() {
    }

    /** The call is an error: it is counted, and changes nothing else. */
    static void refused(String sentence, String setUp, String call, int code) {
        unchanged(sentence, setUp, call, code, true);
    }

    /** The call is no error, whatever its answer looks like, and changes nothing at all. */
    static void asked(String sentence, String setUp, String call, String answer) {
        unchanged(sentence, setUp, call, Script.number(answer), false);
    }

    static void refusedEach(String sentence, String setUp, String pattern, int code, int... values) {
        for (int value : values) {
            refused(sentence, setUp, filled(pattern, value), code);
        }
    }

    /** The values from first to last are taken, those before and behind them are BAD. */
    static void range(String sentence, String setUp, String pattern, int first, int last) {
        taken(sentence, setUp, filled(pattern, first));
        taken(sentence, setUp, filled(pattern, last));
        refusedEach(sentence, setUp, pattern, BAD, LOWEST, first - 1, last + 1, HIGHEST);
    }

    private static void taken(String sentence, String setUp, String call) {
        ClockWires object = Script.made(sentence, setUp);
        long[] counts = counts(object);
        Script.call(object, call);
        sameCounts(name(sentence, setUp, call), object, counts);
    }

    private static void unchanged(String sentence, String setUp, String call, long answer, boolean error) {
        String name = name(sentence, setUp, call);
        for (int probe = 0; probe <= READ_TEXT; probe++) {
            ClockWires object = Script.made(sentence, setUp);
            long[] counts = counts(object);
            int saved = object.told(9);
            Script.due(name, Script.call(object, call), answer);
            if (error) {
                counts[(int) (BAD - answer)]++;
            }
            sameCounts(name, object, counts);
            Script.due(name + ", then the saved states", object.told(9), saved);
            same(name + ", then probe " + probe, probed(object, probe), untouched(setUp).get(probe));
        }
    }

    /** The call succeeds and can be undone: what was before comes back, and what was saved before that, too. */
    static void done(String sentence, String setUp, String call, String answer) {
        String name = name(sentence, setUp, call);
        int saved = Script.made(sentence, setUp).told(9);
        int kept = Math.min(saved, SAVES - 1);
        for (int probe = 0; probe <= READ_TEXT; probe++) {
            if (probe > kept && probe != READ_TEXT) {
                continue;
            }
            ClockWires object = Script.made(sentence, setUp);
            long[] counts = counts(object);
            Script.due(name, Script.call(object, call), Script.number(answer));
            sameCounts(name, object, counts);
            Script.due(name + ", then the saved states", object.told(9), kept + 1);
            Script.due(name + ", then back", object.back(), kept);
            same(name + ", then back and probe " + probe, probed(object, probe), untouched(setUp).get(probe));
        }
    }

    /** The call succeeds and can be undone, but nothing is different after it. */
    static void doneInVain(String sentence, String setUp, String call, String answer) {
        done(sentence, setUp, call, answer);
        for (int probe : new int[] {0, READ_TEXT}) {
            ClockWires object = Script.made(sentence, setUp);
            Script.call(object, call);
            same(name(sentence, setUp, call) + ", in vain", probed(object, probe), untouched(setUp).get(probe));
        }
    }

    private static String name(String sentence, String setUp, String call) {
        int shown = Math.min(setUp.length(), 40);
        return sentence + ": " + setUp.substring(0, shown).replace('\n', ' ') + ".. " + call;
    }

    static String filled(String pattern, int value) {
        return pattern.replace("%", Integer.toString(value));
    }

    private static long[] counts(ClockWires object) {
        return new long[] {object.told(0), object.told(1), object.told(2)};
    }

    private static void sameCounts(String name, ClockWires object, long[] counts) {
        for (int what = 0; what <= 2; what++) {
            Script.due(name + ", then told(" + what + ")", object.told(what), counts[what]);
        }
    }

    private static void same(String name, List<Long> got, List<Long> want) {
        if (!got.equals(want)) {
            Script.due(name + ", as the object shows itself", got.hashCode(), want.hashCode());
        }
    }

    private static List<List<Long>> untouched(String setUp) {
        return UNTOUCHED.computeIfAbsent(setUp, calls -> {
            List<List<Long>> all = new ArrayList<>();
            for (int probe = 0; probe <= READ_TEXT; probe++) {
                all.add(probed(Script.made("set up", calls), probe));
            }
            return all;
        });
    }

    /** What the object shows after so many calls of back; the last probe reads its text instead. */
    private static List<Long> probed(ClockWires object, int probe) {
        List<Long> all = new ArrayList<>();
        if (probe == READ_TEXT) {
            all.add((long) object.builds());
        } else {
            for (int i = 0; i < probe; i++) {
                object.back();
            }
        }
        all.addAll(view(object));
        all.add((long) object.clear());
        return all;
    }

    /** All that an object tells of its state, but the counts of errors and of saved states; asking makes no error. */
    static List<Long> view(ClockWires object) {
        List<Long> all = new ArrayList<>();
        for (int what = 3; what <= 8; what++) {
            all.add((long) object.told(what));
        }
        int sinks = object.told(3);
        for (int k = 0; k < sinks; k++) {
            all.add((long) object.touched(k));
            for (int what = 0; what <= 3; what++) {
                all.add((long) object.end(k, what));
            }
        }
        all.add((long) object.tops());
        all.add((long) object.nearest());
        for (int what = 0; what <= 4; what++) {
            all.add((long) object.total(what));
        }
        if (sinks >= 1 && sinks <= 6) {
            all.add((long) object.least(0));
            all.add((long) object.least(1));
        }
        for (int n : nodes(object, sinks)) {
            viewNode(object, n, all);
        }
        return all;
    }

    private static void viewNode(ClockWires object, int n, List<Long> all) {
        all.add((long) n);
        for (int what = 0; what <= 11; what++) {
            all.add((long) object.node(n, what));
        }
        if (object.tops() == 1) {
            for (int what = 0; what <= 2; what++) {
                all.add((long) object.place(n, what));
            }
            if (n < 8) {
                all.add((long) object.arrival(n));
                all.add(object.slow(n));
            }
        }
    }

    /** The sinks, and the joints above them. */
    private static List<Integer> nodes(ClockWires object, int sinks) {
        List<Integer> all = new ArrayList<>();
        for (int k = 0; k < sinks; k++) {
            for (int n = k; n != NONE && !all.contains(n); n = object.node(n, 2)) {
                all.add(n);
            }
        }
        return all;
    }
}

import java.util.ArrayDeque;
import java.util.ArrayList;
import java.util.Deque;
import java.util.List;
import java.util.TreeMap;

/**
 * The document's words written down a second time, as slowly and plainly as they read, to be compared with the class.
 * Nothing is kept but the state; every answer is computed anew from it, in long arithmetic.
 */
final class Model {
    private static final int NONE = -1, BAD = -2, NO = -3, FULL = -4;
    private static final long UNIT = 65536;

    private static final class Sink {
        int x, y, offset, load = 1;
    }

    private static final class State {
        List<Sink> sinks = new ArrayList<>();
        /** Joint number to its children. */
        TreeMap<Integer, int[]> joints = new TreeMap<>();
        List<Integer> touched = new ArrayList<>();
        int skew, sourceX, sourceY;

        State copy() {
            State other = new State();
            for (Sink sink : sinks) {
                Sink twin = new Sink();
                twin.x = sink.x;
                twin.y = sink.y;
                twin.offset = sink.offset;
                twin.load = sink.load;
                other.sinks.add(twin);
            }
            joints.forEach((number, children) -> other.joints.put(number, children.clone()));
            other.touched.addAll(touched);
            other.skew = skew;
            other.sourceX = sourceX;
            other.sourceY = sourceY;
            return other;
        }

        List<Integer> nodes() {
            List<Integer> all = new ArrayList<>();
            for (int k = 0; k < sinks.size(); k++) {
                all.add(k);
            }
            all.addAll(joints.keySet());
            return all;
        }

        boolean has(int n) {
            return nodes().contains(n);
        }

        int joint(int child) {
            for (var entry : joints.entrySet()) {
                if (entry.getValue()[0] == child || entry.getValue()[1] == child) {
                    return entry.getKey();
                }
            }
            return NONE;
        }

        List<Integer> tops() {
            List<Integer> all = nodes();
            all.removeIf(n -> joint(n) != NONE);
            return all;
        }

        boolean below(int n, int above) {
            int[] children = joints.get(above);
            return children != null
                && (children[0] == n || children[1] == n || below(n, children[0]) || below(n, children[1]));
        }

        List<Integer> allBelow(int n) {
            List<Integer> all = nodes();
            all.removeIf(m -> !below(m, n));
            return all;
        }

        int add(int a, int b) {
            int number = 8;
            while (joints.containsKey(number)) {
                number++;
            }
            joints.put(number, new int[] {a, b});
            return number;
        }

        Box box(int n) {
            if (n < 8) {
                Sink sink = sinks.get(n);
                return Box.point(sink.x, sink.y, sink.offset);
            }
            int[] children = joints.get(n);
            Box a = box(children[0]), b = box(children[1]);
            return Box.joint(a, b, new Meeting(a, b, skew * UNIT));
        }

        long wire(int n) {
            int[] children = joints.get(joint(n));
            Meeting meeting = new Meeting(box(children[0]), box(children[1]), skew * UNIT);
            return children[0] == n ? meeting.wireA : meeting.wireB;
        }

        long cost(int n) {
            return allBelow(n).stream().mapToLong(this::wire).sum();
        }

        long totalCost() {
            return tops().stream().mapToLong(this::cost).sum();
        }

        void replace(int joint, int old, int node) {
            int[] children = joints.get(joint);
            if (children != null) {
                children[children[0] == old ? 0 : 1] = node;
            }
        }

        int graft(int k, int n) {
            int above = joint(n);
            int number = add(n, k);
            replace(above, n, number);
            return number;
        }

        boolean canExchange(int a, int b) {
            int aboveA = joint(a), aboveB = joint(b);
            return aboveA != NONE && aboveB != NONE && aboveA != aboveB && !below(a, b) && !below(b, a);
        }

        void exchange(int a, int b) {
            int aboveA = joint(a), aboveB = joint(b);
            replace(aboveA, a, b);
            replace(aboveB, b, a);
        }

        long[] place(int n) {
            long[] from = joint(n) == NONE
                ? new long[] {(sourceX + sourceY) * UNIT, (sourceX - sourceY) * UNIT}
                : place(joint(n));
            Box box = box(n);
            return new long[] {into(from[0], box.u1, box.u2), into(from[1], box.v1, box.v2)};
        }

        long trunk() {
            return far(new long[] {(sourceX + sourceY) * UNIT, (sourceX - sourceY) * UNIT}, place(tops().get(0)));
        }

        long loop(int n) {
            return wire(n) - far(place(n), place(joint(n)));
        }

        long arrival(int k) {
            long sum = trunk() + sinks.get(k).offset * UNIT;
            for (int n = k; joint(n) != NONE; n = joint(n)) {
                sum += wire(n);
            }
            return sum;
        }

        long capacity(int n) {
            if (n < 8) {
                return sinks.get(n).load * UNIT;
            }
            long sum = cost(n);
            for (int m : allBelow(n)) {
                sum += m < 8 ? sinks.get(m).load * UNIT : 0;
            }
            return sum;
        }

        String text(int n) {
            return n < 8 ? "" + n : "(" + text(joints.get(n)[0]) + text(joints.get(n)[1]) + ")";
        }
    }

    /** A region with its times. */
    private record Box(long u1, long u2, long v1, long v2, long early, long late) {
        static Box point(int x, int y, int offset) {
            long u = (x + y) * UNIT, v = (x - y) * UNIT;
            return new Box(u, u, v, v, offset * UNIT, offset * UNIT);
        }

        static Box joint(Box a, Box b, Meeting meeting) {
            long wa = meeting.wireA, wb = meeting.wireB;
            return new Box(Math.max(a.u1 - wa, b.u1 - wb), Math.min(a.u2 + wa, b.u2 + wb),
                Math.max(a.v1 - wa, b.v1 - wb), Math.min(a.v2 + wa, b.v2 + wb),
                Math.min(a.early + wa, b.early + wb), Math.max(a.late + wa, b.late + wb));
        }
    }

    private static final class Meeting {
        final long gap, s, wireA, wireB;

        Meeting(Box a, Box b, long skew) {
            long greatest = 0;
            for (long one : new long[] {b.u1 - a.u2, a.u1 - b.u2, b.v1 - a.v2, a.v1 - b.v2}) {
                greatest = Math.max(greatest, one);
            }
            gap = greatest;
            long low = b.late - a.early - skew;
            long high = skew + b.early - a.late;
            long want = half(b.early + b.late - a.early - a.late);
            long d;
            if (want >= -gap && want <= gap) {
                d = want;
            } else if (want > gap) {
                d = Math.max(gap, low);
            } else {
                d = Math.min(-gap, high);
            }
            s = Math.max(gap, Math.abs(d));
            wireA = half(s + d);
            wireB = half(s - d);
        }
    }

    private static long half(long value) {
        if (value % 2 != 0) {
            throw new IllegalStateException("odd: " + value);
        }
        return value / 2;
    }

    private static long into(long value, long low, long high) {
        if (low > high) {
            throw new IllegalStateException("an empty region");
        }
        return value < low ? low : value > high ? high : value;
    }

    private static long far(long[] a, long[] b) {
        return Math.max(Math.abs(a[0] - b[0]), Math.abs(a[1] - b[1]));
    }

    private State state = new State();
    private final Deque<State> saved = new ArrayDeque<>();
    private String text = "";
    private final long[] errors = new long[3];

    private int error(int code) {
        errors[-2 - code]++;
        return code;
    }

    private void save() {
        saved.addLast(state.copy());
        if (saved.size() > 8) {
            saved.removeFirst();
        }
    }

    private static boolean range(int value, int low, int high) {
        return value >= low && value <= high;
    }

    private boolean isSink(int k) {
        return range(k, 0, state.sinks.size() - 1);
    }

    private int find(int x, int y) {
        for (int k = 0; k < state.sinks.size(); k++) {
            if (state.sinks.get(k).x == x && state.sinks.get(k).y == y) {
                return k;
            }
        }
        return NONE;
    }

    private void touch(int k) {
        state.touched.remove((Integer) k);
        state.touched.add(k);
    }

    private boolean whole() {
        return state.tops().size() == 1;
    }

    long sink(int x, int y) {
        if (!range(x, 0, 63) || !range(y, 0, 63)) {
            return error(BAD);
        }
        if (find(x, y) != NONE) {
            return error(NO);
        }
        if (state.sinks.size() == 8) {
            return error(FULL);
        }
        save();
        Sink sink = new Sink();
        sink.x = x;
        sink.y = y;
        state.sinks.add(sink);
        touch(state.sinks.size() - 1);
        return state.sinks.size() - 1;
    }

    long moves(int k, int x, int y) {
        if (!isSink(k) || !range(x, 0, 63) || !range(y, 0, 63)) {
            return error(BAD);
        }
        if (find(x, y) != NONE && find(x, y) != k) {
            return error(NO);
        }
        save();
        Sink sink = state.sinks.get(k);
        long distance = gridDistance(sink.x, sink.y, x, y);
        sink.x = x;
        sink.y = y;
        touch(k);
        return distance;
    }

    private static long gridDistance(int x, int y, int toX, int toY) {
        return far(new long[] {(x + y) * UNIT, (x - y) * UNIT}, new long[] {(toX + toY) * UNIT, (toX - toY) * UNIT});
    }

    long sets(int k, int what, int v) {
        boolean fits = what == 0 ? range(v, 0, 99) : what == 1 && range(v, 1, 9);
        if (!isSink(k) || !fits) {
            return error(BAD);
        }
        save();
        Sink sink = state.sinks.get(k);
        int old = what == 0 ? sink.offset : sink.load;
        if (what == 0) {
            sink.offset = v;
        } else {
            sink.load = v;
        }
        touch(k);
        return old;
    }

    long skew(int v) {
        if (!range(v, 0, 99)) {
            return error(BAD);
        }
        save();
        int old = state.skew;
        state.skew = v;
        return old;
    }

    long source(int x, int y) {
        if (!range(x, 0, 63) || !range(y, 0, 63)) {
            return error(BAD);
        }
        save();
        long distance = gridDistance(state.sourceX, state.sourceY, x, y);
        state.sourceX = x;
        state.sourceY = y;
        return distance;
    }

    long end(int k, int what) {
        if (!isSink(k) || !range(what, 0, 3)) {
            return error(BAD);
        }
        Sink sink = state.sinks.get(k);
        return new int[] {sink.x, sink.y, sink.offset, sink.load}[what];
    }

    long touched(int j) {
        if (j < 0) {
            return error(BAD);
        }
        int size = state.touched.size();
        return j >= size ? NONE : state.touched.get(size - 1 - j);
    }

    long at(int x, int y) {
        return range(x, 0, 63) && range(y, 0, 63) ? find(x, y) : error(BAD);
    }

    long joins(int a, int b) {
        if (!state.has(a) || !state.has(b) || a == b) {
            return error(BAD);
        }
        if (!state.tops().contains(a) || !state.tops().contains(b)) {
            return error(NO);
        }
        save();
        return state.add(a, b);
    }

    private int[] nearestTops() {
        int[] best = null;
        long least = Long.MAX_VALUE;
        for (int a : state.tops()) {
            for (int b : state.tops()) {
                long s = new Meeting(state.box(a), state.box(b), state.skew * UNIT).s;
                if (a < b && s < least) {
                    least = s;
                    best = new int[] {a, b};
                }
            }
        }
        return best;
    }

    long pairs() {
        if (state.sinks.isEmpty()) {
            return error(NO);
        }
        save();
        int added = 0;
        for (int[] pair = nearestTops(); pair != null; pair = nearestTops()) {
            state.add(pair[0], pair[1]);
            added++;
        }
        return added;
    }

    long frees() {
        save();
        int had = state.joints.size();
        state.joints.clear();
        return had;
    }

    long cuts(int n) {
        if (!state.has(n)) {
            return error(BAD);
        }
        if (state.joint(n) == NONE) {
            return error(NO);
        }
        save();
        int joint = state.joint(n);
        int[] children = state.joints.get(joint);
        int other = children[0] == n ? children[1] : children[0];
        state.replace(state.joint(joint), joint, other);
        state.joints.remove(joint);
        return joint;
    }

    long grafts(int k, int n) {
        if (!state.has(k) || (n != NONE && !state.has(n))) {
            return error(BAD);
        }
        if (state.joint(k) != NONE || n == k || state.below(n, k)) {
            return error(NO);
        }
        int at = n;
        if (n == NONE) {
            long least = Long.MAX_VALUE;
            for (int m : state.nodes()) {
                if (m != k && !state.below(m, k)) {
                    State tried = state.copy();
                    tried.graft(k, m);
                    if (tried.totalCost() < least) {
                        least = tried.totalCost();
                        at = m;
                    }
                }
            }
            if (at == NONE) {
                return error(NO);
            }
        }
        save();
        return state.graft(k, at);
    }

    long exchanges(int a, int b) {
        if (!state.has(a) || !state.has(b)) {
            return error(BAD);
        }
        if (!state.canExchange(a, b)) {
            return error(NO);
        }
        save();
        long before = state.totalCost();
        state.exchange(a, b);
        return state.totalCost() - before;
    }

    long betters() {
        save();
        long before = state.totalCost();
        State best = state;
        long least = before;
        for (int a : state.nodes()) {
            for (int b : state.nodes()) {
                if (a < b && state.canExchange(a, b)) {
                    State tried = state.copy();
                    tried.exchange(a, b);
                    if (tried.totalCost() < least) {
                        least = tried.totalCost();
                        best = tried;
                    }
                }
            }
        }
        state = best;
        return before - least;
    }

    long node(int n, int what) {
        return state.has(n) && range(what, 0, 11) ? nodeValue(n, what) : error(BAD);
    }

    private long nodeValue(int n, int what) {
        int[] children = n < 8 ? new int[] {NONE, NONE} : state.joints.get(n);
        int joint = state.joint(n);
        Box box = state.box(n);
        long sinks = n < 8 ? 1 : state.allBelow(n).stream().filter(m -> m < 8).count();
        return new long[] {children[0], children[1], joint, box.u1, box.u2, box.v1, box.v2, box.early, box.late,
            joint == NONE ? NONE : state.wire(n), state.cost(n), sinks}[what];
    }

    long would(int a, int b, int what) {
        if (!state.has(a) || !state.has(b) || a == b || !range(what, 0, 3)) {
            return error(BAD);
        }
        Meeting meeting = new Meeting(state.box(a), state.box(b), state.skew * UNIT);
        return new long[] {meeting.s, meeting.s - meeting.gap, meeting.wireA, meeting.wireB}[what];
    }

    long nearest() {
        int[] pair = nearestTops();
        return pair == null ? NONE : 16 * pair[0] + pair[1];
    }

    long tops() {
        return state.tops().size();
    }

    long least(int what) {
        if (!range(what, 0, 1)) {
            return error(BAD);
        }
        if (!range(state.sinks.size(), 1, 6)) {
            return error(NO);
        }
        long least = Long.MAX_VALUE;
        long count = 0;
        for (Grown tree : trees((1 << state.sinks.size()) - 1)) {
            if (tree.cost < least) {
                least = tree.cost;
                count = 0;
            }
            if (tree.cost == least) {
                count++;
            }
        }
        return what == 0 ? least : count;
    }

    private record Grown(Box box, long cost) {
    }

    /** All trees over a set of sinks; the lowest sink always stands on the left, so that none comes twice. */
    private List<Grown> trees(int set) {
        List<Grown> all = new ArrayList<>();
        int lowest = Integer.lowestOneBit(set);
        if (set == lowest) {
            all.add(new Grown(state.box(Integer.numberOfTrailingZeros(set)), 0));
        }
        for (int right = set; right > 0; right = (right - 1) & set) {
            if ((right & lowest) == 0) {
                for (Grown a : trees(set & ~right)) {
                    for (Grown b : trees(right)) {
                        Meeting meeting = new Meeting(a.box, b.box, state.skew * UNIT);
                        all.add(new Grown(Box.joint(a.box, b.box, meeting), a.cost + b.cost + meeting.s));
                    }
                }
            }
        }
        return all;
    }

    long place(int n, int what) {
        if (!state.has(n) || !range(what, 0, 2)) {
            return error(BAD);
        }
        if (!whole()) {
            return error(NO);
        }
        if (what == 2) {
            return state.joint(n) == NONE ? NONE : state.loop(n);
        }
        return state.place(n)[what];
    }

    long arrival(int k) {
        if (!isSink(k)) {
            return error(BAD);
        }
        return whole() ? state.arrival(k) : error(NO);
    }

    long slow(int k) {
        if (!isSink(k)) {
            return error(BAD);
        }
        if (!whole()) {
            return error(NO);
        }
        long sum = 0;
        for (int n = k; n != NONE; n = state.joint(n)) {
            long w = state.joint(n) == NONE ? state.trunk() : state.wire(n);
            sum = Math.addExact(sum, Math.multiplyExact(w, w + 2 * state.capacity(n)));
        }
        return sum;
    }

    long total(int what) {
        return range(what, 0, 4) ? totalValue(what) : error(BAD);
    }

    private long totalValue(int what) {
        if (what == 0) {
            return state.totalCost();
        }
        if (!whole()) {
            return NONE;
        }
        long loops = 0, looped = 0, first = Long.MAX_VALUE, last = Long.MIN_VALUE;
        for (int n : state.nodes()) {
            long loop = state.joint(n) == NONE ? 0 : state.loop(n);
            if (loop < 0) {
                throw new IllegalStateException("a loop below 0");
            }
            loops += loop;
            looped += loop > 0 ? 1 : 0;
            if (n < 8) {
                first = Math.min(first, state.arrival(n));
                last = Math.max(last, state.arrival(n));
            }
        }
        return new long[] {0, state.trunk(), loops, last - first, looped}[what];
    }

    long type(int c) {
        if (!range(c, 0, 127)) {
            return error(BAD);
        }
        if (text.length() == 60) {
            return error(FULL);
        }
        text += (char) c;
        return text.length();
    }

    long clear() {
        int had = text.length();
        text = "";
        return had;
    }

    private static final class Fault extends Exception {
        private static final long serialVersionUID = 1;
        final int index;

        Fault(int index) {
            this.index = index;
        }
    }

    private int readIndex;
    private State readState;
    private List<Integer> readSinks;

    private char peek() {
        while (readIndex < text.length() && text.charAt(readIndex) == ' ') {
            readIndex++;
        }
        return readIndex < text.length() ? text.charAt(readIndex) : (char) 1000;
    }

    private int readPart() throws Fault {
        char c = peek();
        if (c == '(') {
            readIndex++;
            int a = readPart();
            int b = readPart();
            if (peek() != ')') {
                throw new Fault(readIndex);
            }
            readIndex++;
            return readState.add(a, b);
        }
        int k = c - '0';
        if (!isSink(k) || readSinks.contains(k)) {
            throw new Fault(readIndex);
        }
        readSinks.add(k);
        readIndex++;
        return k;
    }

    long builds() {
        readIndex = 0;
        readState = state.copy();
        readState.joints.clear();
        readSinks = new ArrayList<>();
        try {
            readPart();
            if (peek() != 1000) {
                throw new Fault(readIndex);
            }
        } catch (Fault fault) {
            return -10 - fault.index;
        }
        save();
        state = readState;
        return state.joints.size();
    }

    long shown(int n, int i) {
        if (!state.has(n) || i < 0) {
            return error(BAD);
        }
        String shown = state.text(n);
        return i < shown.length() ? shown.charAt(i) : NONE;
    }

    long back() {
        if (saved.isEmpty()) {
            return error(NO);
        }
        state = saved.removeLast();
        return saved.size();
    }

    long told(int what) {
        return range(what, 0, 9) ? toldValue(what) : error(BAD);
    }

    private long toldValue(int what) {
        return new long[] {errors[0], errors[1], errors[2], state.sinks.size(), state.joints.size(), state.skew,
            state.sourceX, state.sourceY, text.length(), saved.size()}[what];
    }

    long digest() {
        long h = 1680;
        for (int what = 0; what <= 9; what++) {
            h = 31 * h + toldValue(what);
        }
        for (int k = 0; k < state.sinks.size(); k++) {
            for (int what = 0; what <= 3; what++) {
                h = 31 * h + end(k, what);
            }
        }
        for (int n : state.nodes()) {
            h = 31 * h + n;
            for (int what = 0; what <= 10; what++) {
                h = 31 * h + nodeValue(n, what);
            }
        }
        for (int what = 0; what <= 4; what++) {
            h = 31 * h + totalValue(what);
        }
        return h;
    }
}

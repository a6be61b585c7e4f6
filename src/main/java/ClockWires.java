/** Clock tree synthesis with bounded skew (deferred merge embedding). */
public final class ClockWires {
    public static final int NONE = -1, BAD = -2, NO = -3, FULL = -4;

    private static final int SINKS = 8;
    private static final int NODES = 15;
    private static final int LAST_COORDINATE = 63;
    private static final int LAST_TIME = 99;
    private static final int LAST_LOAD = 9;
    private static final int UNIT = 65536;
    private static final int SAVES = 8;
    private static final int TEXT_BYTES = 60;
    private static final int LAST_BYTE = 127;
    private static final int MOST_SEARCHED_SINKS = 6;
    private static final int PAIR_BASE = 16;
    private static final int FAULT_BASE = -10;
    private static final int DIGEST_START = 1680;

    private final Tree tree = new Tree();
    private final Wires wires = new Wires();
    private final Places places = new Places();
    private final Search search = new Search();
    private final History history = new History();
    private final Text text = new Text();
    private int badCount;
    private int noCount;
    private int fullCount;

    public ClockWires() {
        refresh();
    }

    // ---- ends

    public int sink(int x, int y) {
        if (!isOnGrid(x, y)) {
            return refuse(BAD);
        }
        if (tree.sinkAt(x, y) != NONE) {
            return refuse(NO);
        }
        if (tree.sinkCount >= SINKS) {
            return refuse(FULL);
        }
        history.save(tree);
        int added = tree.addSink(x, y);
        refresh();
        return added;
    }

    public int moves(int k, int x, int y) {
        if (!tree.hasSink(k) || !isOnGrid(x, y)) {
            return refuse(BAD);
        }
        int there = tree.sinkAt(x, y);
        if (there != NONE && there != k) {
            return refuse(NO);
        }
        int distance = gridDistance(tree.x[k], tree.y[k], x, y);
        history.save(tree);
        tree.moveSink(k, x, y);
        refresh();
        return distance;
    }

    public int sets(int k, int what, int v) {
        if (!tree.hasSink(k) || !isSetting(what, v)) {
            return refuse(BAD);
        }
        history.save(tree);
        int old;
        if (what == 0) {
            old = tree.offset[k];
            tree.offset[k] = v;
        } else {
            old = tree.load[k];
            tree.load[k] = v;
        }
        tree.touch(k);
        refresh();
        return old;
    }

    public int skew(int v) {
        if (v < 0 || v > LAST_TIME) {
            return refuse(BAD);
        }
        history.save(tree);
        int old = tree.skewLimit;
        tree.skewLimit = v;
        refresh();
        return old;
    }

    public int source(int x, int y) {
        if (!isOnGrid(x, y)) {
            return refuse(BAD);
        }
        int distance = gridDistance(tree.sourceX, tree.sourceY, x, y);
        history.save(tree);
        tree.sourceX = x;
        tree.sourceY = y;
        refresh();
        return distance;
    }

    public int end(int k, int what) {
        if (!tree.hasSink(k) || what < 0 || what > 3) {
            return refuse(BAD);
        }
        return tree.sinkValue(k, what);
    }

    public int touched(int j) {
        if (j < 0) {
            return refuse(BAD);
        }
        return tree.touchedBefore(j);
    }

    public int at(int x, int y) {
        if (!isOnGrid(x, y)) {
            return refuse(BAD);
        }
        return tree.sinkAt(x, y);
    }

    // ---- joints

    public int joins(int a, int b) {
        if (!tree.hasNode(a) || !tree.hasNode(b) || a == b) {
            return refuse(BAD);
        }
        if (!tree.isTop(a) || !tree.isTop(b)) {
            return refuse(NO);
        }
        history.save(tree);
        int joint = tree.addJoint(a, b);
        refresh();
        return joint;
    }

    public int pairs() {
        if (tree.sinkCount == 0) {
            return refuse(NO);
        }
        history.save(tree);
        int added = 0;
        for (int round = 0; round < SINKS; round++) {
            int pair = wires.nearestPair(tree);
            if (pair == NONE) {
                break;
            }
            tree.addJoint(pair / PAIR_BASE, pair % PAIR_BASE);
            wires.measure(tree);
            added++;
        }
        refresh();
        return added;
    }

    public int frees() {
        history.save(tree);
        int removed = tree.jointCount();
        tree.removeJoints();
        refresh();
        return removed;
    }

    public int cuts(int n) {
        if (!tree.hasNode(n)) {
            return refuse(BAD);
        }
        if (tree.isTop(n)) {
            return refuse(NO);
        }
        history.save(tree);
        int removed = tree.cut(n);
        refresh();
        return removed;
    }

    public int grafts(int k, int n) {
        if (!tree.hasNode(k) || (n != NONE && !tree.hasNode(n))) {
            return refuse(BAD);
        }
        int target = n == NONE ? search.bestGraft(tree, k) : n;
        if (!tree.canGraft(k, target)) {
            return refuse(NO);
        }
        history.save(tree);
        int joint = tree.graft(k, target);
        refresh();
        return joint;
    }

    public int exchanges(int a, int b) {
        if (!tree.hasNode(a) || !tree.hasNode(b)) {
            return refuse(BAD);
        }
        if (!tree.canExchange(a, b)) {
            return refuse(NO);
        }
        history.save(tree);
        return exchangeAndCompare(a, b);
    }

    public int betters() {
        history.save(tree);
        int pair = search.bestExchange(tree, wires.totalCost);
        if (pair == NONE) {
            return 0;
        }
        return -exchangeAndCompare(pair / PAIR_BASE, pair % PAIR_BASE);
    }

    public int node(int n, int what) {
        if (!tree.hasNode(n) || what < 0 || what > 11) {
            return refuse(BAD);
        }
        return nodeValue(n, what);
    }

    public int would(int a, int b, int what) {
        if (!tree.hasNode(a) || !tree.hasNode(b) || a == b || what < 0 || what > 3) {
            return refuse(BAD);
        }
        Merge merge = wires.merge;
        merge.weigh(wires.part(a), wires.part(b), tree.skewLimit * UNIT);
        switch (what) {
            case 0:
                return merge.span;
            case 1:
                return merge.span - merge.gap;
            case 2:
                return merge.leftWire;
            default:
                return merge.rightWire;
        }
    }

    public int nearest() {
        return wires.nearestPair(tree);
    }

    public int tops() {
        return wires.topCount;
    }

    public int least(int what) {
        if (what != 0 && what != 1) {
            return refuse(BAD);
        }
        if (tree.sinkCount == 0 || tree.sinkCount > MOST_SEARCHED_SINKS) {
            return refuse(NO);
        }
        search.findLeast(tree);
        return what == 0 ? search.leastCost : search.leastTrees;
    }

    // ---- places

    public int place(int n, int what) {
        if (!tree.hasNode(n) || what < 0 || what > 2) {
            return refuse(BAD);
        }
        if (!places.whole) {
            return refuse(NO);
        }
        switch (what) {
            case 0:
                return places.u[n];
            case 1:
                return places.v[n];
            default:
                return places.loop[n];
        }
    }

    public int arrival(int k) {
        if (!tree.hasSink(k)) {
            return refuse(BAD);
        }
        if (!places.whole) {
            return refuse(NO);
        }
        return places.arrivalOf(tree, k);
    }

    public long slow(int k) {
        if (!tree.hasSink(k)) {
            return refuse(BAD);
        }
        if (!places.whole) {
            return refuse(NO);
        }
        return places.delay[k];
    }

    public int total(int what) {
        if (what < 0 || what > 4) {
            return refuse(BAD);
        }
        return totalValue(what);
    }

    // ---- texts

    public int type(int c) {
        if (c < 0 || c > LAST_BYTE) {
            return refuse(BAD);
        }
        if (text.length >= TEXT_BYTES) {
            return refuse(FULL);
        }
        text.append(c);
        return text.length;
    }

    public int clear() {
        int had = text.length;
        text.length = 0;
        return had;
    }

    public int builds() {
        int fault = text.parse(tree.sinkCount);
        if (fault != NONE) {
            return FAULT_BASE - fault;
        }
        history.save(tree);
        tree.removeJoints();
        for (int i = 0; i < text.jointCount && i < text.jointLeft.length; i++) {
            tree.addJoint(text.jointLeft[i], text.jointRight[i]);
        }
        refresh();
        return text.jointCount;
    }

    public int shown(int n, int i) {
        if (!tree.hasNode(n) || i < 0) {
            return refuse(BAD);
        }
        return shownByte(n, i);
    }

    public int back() {
        if (history.count == 0) {
            return refuse(NO);
        }
        history.restore(tree);
        refresh();
        return history.count;
    }

    public int told(int what) {
        if (what < 0 || what > 9) {
            return refuse(BAD);
        }
        return toldValue(what);
    }

    public long digest() {
        long h = DIGEST_START;
        for (int what = 0; what <= 9; what++) {
            h = 31 * h + toldValue(what);
        }
        for (int k = 0; k < tree.sinkCount; k++) {
            for (int what = 0; what <= 3; what++) {
                h = 31 * h + tree.sinkValue(k, what);
            }
        }
        for (int n = 0; n < NODES; n++) {
            if (tree.hasNode(n)) {
                h = 31 * h + n;
                for (int what = 0; what <= 10; what++) {
                    h = 31 * h + nodeValue(n, what);
                }
            }
        }
        for (int what = 0; what <= 4; what++) {
            h = 31 * h + totalValue(what);
        }
        return h;
    }

    // ---- help for the methods above

    // Answers may equal an error code, so errors are counted here and not by what a call returns.
    private int refuse(int code) {
        if (code == BAD) {
            badCount++;
        } else if (code == NO) {
            noCount++;
        } else {
            fullCount++;
        }
        return code;
    }

    private void refresh() {
        wires.measure(tree);
        places.embed(tree, wires);
        search.leastKnown = false;
    }

    private int exchangeAndCompare(int a, int b) {
        int before = wires.totalCost;
        tree.exchange(a, b);
        refresh();
        return wires.totalCost - before;
    }

    private int nodeValue(int n, int what) {
        Part part = wires.part(n);
        switch (what) {
            case 0:
                return tree.leftOf(n);
            case 1:
                return tree.rightOf(n);
            case 2:
                return tree.parentOf(n);
            case 3:
                return part.u1;
            case 4:
                return part.u2;
            case 5:
                return part.v1;
            case 6:
                return part.v2;
            case 7:
                return part.early;
            case 8:
                return part.late;
            case 9:
                return part.wire;
            case 10:
                return part.cost;
            default:
                return part.sinks;
        }
    }

    private int totalValue(int what) {
        if (what == 0) {
            return wires.totalCost;
        }
        if (!places.whole) {
            return NONE;
        }
        switch (what) {
            case 1:
                return places.trunk;
            case 2:
                return places.loopSum;
            case 3:
                return places.spread;
            default:
                return places.loopCount;
        }
    }

    private int toldValue(int what) {
        switch (what) {
            case 0:
                return badCount;
            case 1:
                return noCount;
            case 2:
                return fullCount;
            case 3:
                return tree.sinkCount;
            case 4:
                return tree.jointCount();
            case 5:
                return tree.skewLimit;
            case 6:
                return tree.sourceX;
            case 7:
                return tree.sourceY;
            case 8:
                return text.length;
            default:
                return history.count;
        }
    }

    // The lengths of the children's texts tell where the byte stands, so no text is written out.
    private int shownByte(int n, int i) {
        int m = n;
        int index = i;
        for (int step = 0; step < NODES; step++) {
            int length = shownLength(m);
            if (index >= length) {
                return NONE;
            }
            if (m < SINKS) {
                return '0' + m;
            }
            if (index == 0) {
                return '(';
            }
            if (index == length - 1) {
                return ')';
            }
            index--;
            int leftLength = shownLength(tree.leftOf(m));
            if (index < leftLength) {
                m = tree.leftOf(m);
            } else {
                index -= leftLength;
                m = tree.rightOf(m);
            }
        }
        return NONE;
    }

    // A digit for each sink, and two parentheses for each joint: one joint less than sinks.
    private int shownLength(int n) {
        return 3 * wires.part(n).sinks - 2;
    }

    private static boolean isOnGrid(int x, int y) {
        return x >= 0 && x <= LAST_COORDINATE && y >= 0 && y <= LAST_COORDINATE;
    }

    private static boolean isSetting(int what, int v) {
        if (what == 0) {
            return v >= 0 && v <= LAST_TIME;
        }
        return what == 1 && v >= 1 && v <= LAST_LOAD;
    }

    private static int gridDistance(int x1, int y1, int x2, int y2) {
        return distance((x1 + y1) * UNIT, (x1 - y1) * UNIT, (x2 + y2) * UNIT, (x2 - y2) * UNIT);
    }

    private static int distance(int u1, int v1, int u2, int v2) {
        return Math.max(Math.abs(u1 - u2), Math.abs(v1 - v2));
    }

    /** All that undo restores: sinks, joints, skew, source, and the order of touching. */
    private static final class Tree {
        final int[] x = new int[SINKS];
        final int[] y = new int[SINKS];
        final int[] offset = new int[SINKS];
        final int[] load = new int[SINKS];
        final int[] lastTouched = new int[SINKS];
        final int[] left = new int[NODES];
        final int[] right = new int[NODES];
        final int[] parent = new int[NODES];
        int sinkCount;
        int skewLimit;
        int sourceX;
        int sourceY;

        Tree() {
            removeJoints();
        }

        void copyFrom(Tree other) {
            System.arraycopy(other.x, 0, x, 0, SINKS);
            System.arraycopy(other.y, 0, y, 0, SINKS);
            System.arraycopy(other.offset, 0, offset, 0, SINKS);
            System.arraycopy(other.load, 0, load, 0, SINKS);
            System.arraycopy(other.lastTouched, 0, lastTouched, 0, SINKS);
            System.arraycopy(other.left, 0, left, 0, NODES);
            System.arraycopy(other.right, 0, right, 0, NODES);
            System.arraycopy(other.parent, 0, parent, 0, NODES);
            sinkCount = other.sinkCount;
            skewLimit = other.skewLimit;
            sourceX = other.sourceX;
            sourceY = other.sourceY;
        }

        boolean hasSink(int k) {
            return k >= 0 && k < sinkCount && k < SINKS;
        }

        boolean hasNode(int n) {
            return n >= 0 && n < NODES && (n < SINKS ? n < sinkCount : left[n] != NONE);
        }

        boolean isJoint(int n) {
            return n >= SINKS && n < NODES && left[n] != NONE;
        }

        boolean isTop(int n) {
            return hasNode(n) && parent[n] == NONE;
        }

        int leftOf(int n) {
            return hasNode(n) ? left[n] : NONE;
        }

        int rightOf(int n) {
            return hasNode(n) ? right[n] : NONE;
        }

        int parentOf(int n) {
            return hasNode(n) ? parent[n] : NONE;
        }

        int jointCount() {
            int count = 0;
            for (int n = SINKS; n < NODES; n++) {
                if (isJoint(n)) {
                    count++;
                }
            }
            return count;
        }

        int sinkAt(int atX, int atY) {
            for (int k = 0; k < sinkCount && k < SINKS; k++) {
                if (x[k] == atX && y[k] == atY) {
                    return k;
                }
            }
            return NONE;
        }

        int sinkValue(int k, int what) {
            if (!hasSink(k)) {
                return NONE;
            }
            switch (what) {
                case 0:
                    return x[k];
                case 1:
                    return y[k];
                case 2:
                    return offset[k];
                default:
                    return load[k];
            }
        }

        int addSink(int newX, int newY) {
            int k = sinkCount;
            if (k < 0 || k >= SINKS) {
                return NONE;
            }
            x[k] = newX;
            y[k] = newY;
            offset[k] = 0;
            load[k] = 1;
            // At the end of the order, from where touching brings it to the front.
            lastTouched[k] = k;
            sinkCount = k + 1;
            touch(k);
            return k;
        }

        void moveSink(int k, int newX, int newY) {
            if (hasSink(k)) {
                x[k] = newX;
                y[k] = newY;
                touch(k);
            }
        }

        void touch(int k) {
            int from = 0;
            for (int i = 0; i < sinkCount && i < SINKS; i++) {
                if (lastTouched[i] == k) {
                    from = i;
                }
            }
            for (int i = from; i > 0; i--) {
                lastTouched[i] = lastTouched[i - 1];
            }
            lastTouched[0] = k;
        }

        int touchedBefore(int j) {
            return hasSink(j) ? lastTouched[j] : NONE;
        }

        void removeJoints() {
            for (int n = 0; n < NODES; n++) {
                left[n] = NONE;
                right[n] = NONE;
                parent[n] = NONE;
            }
        }

        int freeJoint() {
            for (int n = SINKS; n < NODES; n++) {
                if (!isJoint(n)) {
                    return n;
                }
            }
            return NONE;
        }

        int addJoint(int a, int b) {
            int joint = freeJoint();
            if (joint == NONE || !hasNode(a) || !hasNode(b)) {
                return NONE;
            }
            left[joint] = a;
            right[joint] = b;
            parent[joint] = NONE;
            parent[a] = joint;
            parent[b] = joint;
            return joint;
        }

        // The joint may be NONE: then the node becomes a top.
        void replaceChild(int joint, int old, int node) {
            if (!hasNode(node)) {
                return;
            }
            parent[node] = joint;
            if (isJoint(joint)) {
                if (left[joint] == old) {
                    left[joint] = node;
                } else {
                    right[joint] = node;
                }
            }
        }

        boolean isWithin(int n, int above) {
            int m = n;
            for (int step = 0; step < NODES && m != NONE; step++) {
                if (m == above) {
                    return true;
                }
                m = parentOf(m);
            }
            return false;
        }

        boolean canGraft(int k, int n) {
            return isTop(k) && hasNode(n) && !isWithin(n, k);
        }

        int graft(int k, int n) {
            int above = parentOf(n);
            int joint = addJoint(n, k);
            replaceChild(above, n, joint);
            return joint;
        }

        int cut(int n) {
            int joint = parentOf(n);
            if (!isJoint(joint)) {
                return NONE;
            }
            int other = left[joint] == n ? right[joint] : left[joint];
            replaceChild(parent[joint], joint, other);
            left[joint] = NONE;
            right[joint] = NONE;
            parent[joint] = NONE;
            parent[n] = NONE;
            return joint;
        }

        boolean canExchange(int a, int b) {
            int aboveA = parentOf(a);
            int aboveB = parentOf(b);
            return aboveA != NONE && aboveB != NONE && aboveA != aboveB
                && !isWithin(a, b) && !isWithin(b, a);
        }

        void exchange(int a, int b) {
            int aboveA = parentOf(a);
            int aboveB = parentOf(b);
            replaceChild(aboveA, a, b);
            replaceChild(aboveB, b, a);
        }
    }

    /** What is computed for one node. */
    private static final class Part {
        int u1;
        int u2;
        int v1;
        int v2;
        int early;
        int late;
        int wire;
        int cost;
        int sinks;
        int loads;

        void setSink(Tree tree, int k) {
            if (!tree.hasSink(k)) {
                return;
            }
            u1 = (tree.x[k] + tree.y[k]) * UNIT;
            u2 = u1;
            v1 = (tree.x[k] - tree.y[k]) * UNIT;
            v2 = v1;
            early = tree.offset[k] * UNIT;
            late = early;
            cost = 0;
            sinks = 1;
            loads = tree.load[k];
        }

        long capacity() {
            return (long) cost + (long) loads * UNIT;
        }
    }

    /** The wires of two nodes that are joined, or would be. */
    private static final class Merge {
        int gap;
        int span;
        int leftWire;
        int rightWire;

        void weigh(Part a, Part b, int skew) {
            gap = gapBetween(a, b);
            int lead = leadOf(a, b, skew);
            span = Math.max(gap, Math.abs(lead));
            leftWire = (span + lead) / 2;
            rightWire = (span - lead) / 2;
        }

        private int gapBetween(Part a, Part b) {
            int alongU = Math.max(b.u1 - a.u2, a.u1 - b.u2);
            int alongV = Math.max(b.v1 - a.v2, a.v1 - b.v2);
            return Math.max(0, Math.max(alongU, alongV));
        }

        // How much longer the left wire is than the right one.
        private int leadOf(Part a, Part b, int skew) {
            int want = (b.early + b.late - a.early - a.late) / 2;
            if (want > gap) {
                return Math.max(gap, b.late - a.early - skew);
            }
            if (want < -gap) {
                return Math.min(-gap, skew + b.early - a.late);
            }
            return want;
        }

        // Weighing comes first, as a step of its own, so that would() can weigh without joining.
        void join(Part joint, Part a, Part b) {
            a.wire = leftWire;
            b.wire = rightWire;
            joint.early = Math.min(a.early + leftWire, b.early + rightWire);
            joint.late = Math.max(a.late + leftWire, b.late + rightWire);
            joint.u1 = Math.max(a.u1 - leftWire, b.u1 - rightWire);
            joint.u2 = Math.min(a.u2 + leftWire, b.u2 + rightWire);
            joint.v1 = Math.max(a.v1 - leftWire, b.v1 - rightWire);
            joint.v2 = Math.min(a.v2 + leftWire, b.v2 + rightWire);
            joint.cost = a.cost + b.cost + leftWire + rightWire;
            joint.sinks = a.sinks + b.sinks;
            joint.loads = a.loads + b.loads;
        }
    }

    /** The parts of all nodes of a tree. */
    private static final class Wires {
        final Part[] parts = new Part[NODES];
        final Part nowhere = new Part();
        final Merge merge = new Merge();
        // The tops in ascending order, then the others, each behind its joint.
        final int[] downward = new int[NODES];
        int nodeCount;
        int topCount;
        int totalCost;

        Wires() {
            for (int n = 0; n < NODES; n++) {
                parts[n] = new Part();
            }
        }

        Part part(int n) {
            return n >= 0 && n < NODES ? parts[n] : nowhere;
        }

        void measure(Tree tree) {
            listDownward(tree);
            int skew = tree.skewLimit * UNIT;
            for (int i = Math.min(nodeCount, NODES) - 1; i >= 0; i--) {
                int n = downward[i];
                if (tree.isJoint(n)) {
                    Part a = part(tree.leftOf(n));
                    Part b = part(tree.rightOf(n));
                    merge.weigh(a, b, skew);
                    merge.join(part(n), a, b);
                } else {
                    part(n).setSink(tree, n);
                }
            }
            totalCost = 0;
            for (int i = 0; i < topCount && i < NODES; i++) {
                Part top = part(downward[i]);
                top.wire = NONE;
                totalCost += top.cost;
            }
        }

        private void listDownward(Tree tree) {
            nodeCount = 0;
            for (int n = 0; n < NODES; n++) {
                if (tree.isTop(n)) {
                    list(n);
                }
            }
            topCount = nodeCount;
            for (int i = 0; i < nodeCount && i < NODES; i++) {
                int n = downward[i];
                if (tree.isJoint(n)) {
                    list(tree.leftOf(n));
                    list(tree.rightOf(n));
                }
            }
        }

        private void list(int n) {
            if (nodeCount >= 0 && nodeCount < NODES) {
                downward[nodeCount] = n;
                nodeCount++;
            }
        }

        int nearestPair(Tree tree) {
            int skew = tree.skewLimit * UNIT;
            int pair = NONE;
            int leastSpan = 0;
            for (int i = 0; i < topCount && i < NODES; i++) {
                for (int j = i + 1; j < topCount && j < NODES; j++) {
                    merge.weigh(part(downward[i]), part(downward[j]), skew);
                    if (pair == NONE || merge.span < leastSpan) {
                        pair = PAIR_BASE * downward[i] + downward[j];
                        leastSpan = merge.span;
                    }
                }
            }
            return pair;
        }
    }

    /** A whole tree, embedded from the source downward. */
    private static final class Places {
        final int[] u = new int[NODES];
        final int[] v = new int[NODES];
        final int[] loop = new int[NODES];
        // The time from the source to the node, and the delay that comes with it.
        final int[] path = new int[NODES];
        final long[] delay = new long[NODES];
        boolean whole;
        int trunk;
        int loopSum;
        int loopCount;
        int spread;

        void embed(Tree tree, Wires wires) {
            whole = wires.topCount == 1;
            if (!whole) {
                return;
            }
            loopSum = 0;
            loopCount = 0;
            setTop(tree, wires, wires.downward[0]);
            for (int i = 1; i < wires.nodeCount && i < NODES; i++) {
                int n = wires.downward[i];
                setChild(wires.part(n), n, tree.parentOf(n));
            }
            setSpread(tree);
        }

        private void setTop(Tree tree, Wires wires, int top) {
            if (!tree.hasNode(top)) {
                return;
            }
            Part part = wires.part(top);
            int sourceU = (tree.sourceX + tree.sourceY) * UNIT;
            int sourceV = (tree.sourceX - tree.sourceY) * UNIT;
            u[top] = movedInto(sourceU, part.u1, part.u2);
            v[top] = movedInto(sourceV, part.v1, part.v2);
            loop[top] = NONE;
            trunk = distance(sourceU, sourceV, u[top], v[top]);
            path[top] = trunk;
            delay[top] = delayOf(trunk, part);
        }

        private void setChild(Part part, int n, int joint) {
            if (n < 0 || n >= NODES || joint < 0 || joint >= NODES) {
                return;
            }
            u[n] = movedInto(u[joint], part.u1, part.u2);
            v[n] = movedInto(v[joint], part.v1, part.v2);
            loop[n] = part.wire - distance(u[n], v[n], u[joint], v[joint]);
            loopSum += loop[n];
            if (loop[n] > 0) {
                loopCount++;
            }
            path[n] = path[joint] + part.wire;
            delay[n] = delay[joint] + delayOf(part.wire, part);
        }

        private void setSpread(Tree tree) {
            int first = arrivalOf(tree, 0);
            int last = first;
            for (int k = 1; k < tree.sinkCount; k++) {
                first = Math.min(first, arrivalOf(tree, k));
                last = Math.max(last, arrivalOf(tree, k));
            }
            spread = last - first;
        }

        int arrivalOf(Tree tree, int k) {
            return tree.hasSink(k) ? path[k] + tree.offset[k] * UNIT : NONE;
        }

        private static long delayOf(int wire, Part part) {
            return wire * (wire + 2 * part.capacity());
        }

        private static int movedInto(int value, int low, int high) {
            return Math.max(low, Math.min(high, value));
        }
    }

    /** Tries changes on a copy of the tree. */
    private static final class Search {
        final Tree trial = new Tree();
        final Wires wires = new Wires();
        boolean leastKnown;
        int leastCost;
        int leastTrees;

        int bestGraft(Tree tree, int k) {
            trial.copyFrom(tree);
            int best = NONE;
            int bestCost = 0;
            for (int n = 0; n < NODES; n++) {
                if (!trial.canGraft(k, n)) {
                    continue;
                }
                trial.graft(k, n);
                wires.measure(trial);
                trial.cut(k);
                if (best == NONE || wires.totalCost < bestCost) {
                    best = n;
                    bestCost = wires.totalCost;
                }
            }
            return best;
        }

        int bestExchange(Tree tree, int costNow) {
            trial.copyFrom(tree);
            int best = NONE;
            int bestCost = costNow;
            for (int a = 0; a < NODES; a++) {
                for (int b = a + 1; b < NODES; b++) {
                    if (!trial.canExchange(a, b)) {
                        continue;
                    }
                    trial.exchange(a, b);
                    wires.measure(trial);
                    trial.exchange(a, b);
                    if (wires.totalCost < bestCost) {
                        best = PAIR_BASE * a + b;
                        bestCost = wires.totalCost;
                    }
                }
            }
            return best;
        }

        void findLeast(Tree tree) {
            if (leastKnown) {
                return;
            }
            trial.copyFrom(tree);
            trial.removeJoints();
            leastTrees = 0;
            growTrees(1);
            leastKnown = true;
        }

        // Grafting each further sink at each node of the tree so far makes every tree exactly once.
        private void growTrees(int k) {
            if (k >= trial.sinkCount || k >= MOST_SEARCHED_SINKS) {
                wires.measure(trial);
                countTree(wires.totalCost);
                return;
            }
            for (int n = 0; n < NODES; n++) {
                if (n < k || trial.isJoint(n)) {
                    trial.graft(k, n);
                    growTrees(k + 1);
                    trial.cut(k);
                }
            }
        }

        private void countTree(int cost) {
            if (leastTrees == 0 || cost < leastCost) {
                leastCost = cost;
                leastTrees = 1;
            } else if (cost == leastCost) {
                leastTrees++;
            }
        }
    }

    /** The states that can be restored, in a ring so that none is made anew. */
    private static final class History {
        final Tree[] saved = new Tree[SAVES];
        int next;
        int count;

        History() {
            for (int i = 0; i < SAVES; i++) {
                saved[i] = new Tree();
            }
        }

        void save(Tree tree) {
            if (next < 0 || next >= SAVES) {
                return;
            }
            saved[next].copyFrom(tree);
            next = (next + 1) % SAVES;
            count = Math.min(count + 1, SAVES);
        }

        void restore(Tree tree) {
            if (count <= 0 || next < 0) {
                return;
            }
            next = (next + SAVES - 1) % SAVES;
            tree.copyFrom(saved[next]);
            count--;
        }
    }

    /** The typed text, and the joints that its last parse found. */
    private static final class Text {
        final int[] bytes = new int[TEXT_BYTES];
        // The parts found so far, for each parenthesis that is open, and for the whole at depth 0.
        final int[] first = new int[TEXT_BYTES + 1];
        final int[] second = new int[TEXT_BYTES + 1];
        final int[] jointLeft = new int[NODES - SINKS];
        final int[] jointRight = new int[NODES - SINKS];
        int length;
        int jointCount;
        int depth;
        int usedSinks;

        void append(int c) {
            if (length >= 0 && length < TEXT_BYTES) {
                bytes[length] = c;
                length++;
            }
        }

        int parse(int sinkCount) {
            jointCount = 0;
            usedSinks = 0;
            depth = 0;
            first[0] = NONE;
            second[0] = NONE;
            for (int i = 0; i < length && i < TEXT_BYTES; i++) {
                if (!accepts(bytes[i], sinkCount)) {
                    return i;
                }
            }
            return depth == 0 && first[0] != NONE ? NONE : length;
        }

        private boolean accepts(int c, int sinkCount) {
            if (c == ' ') {
                return true;
            }
            if (c == '(') {
                return opens();
            }
            if (c == ')') {
                return closes();
            }
            return takesSink(c - '0', sinkCount);
        }

        private boolean opens() {
            if (!wantsPart() || depth >= TEXT_BYTES) {
                return false;
            }
            depth++;
            first[depth] = NONE;
            second[depth] = NONE;
            return true;
        }

        private boolean closes() {
            if (depth <= 0 || depth > TEXT_BYTES || second[depth] == NONE) {
                return false;
            }
            if (jointCount < 0 || jointCount >= jointLeft.length) {
                return false;
            }
            jointLeft[jointCount] = first[depth];
            jointRight[jointCount] = second[depth];
            depth--;
            addPart(SINKS + jointCount);
            jointCount++;
            return true;
        }

        private boolean takesSink(int k, int sinkCount) {
            if (!wantsPart() || k < 0 || k >= sinkCount || (usedSinks & (1 << k)) != 0) {
                return false;
            }
            usedSinks |= 1 << k;
            addPart(k);
            return true;
        }

        private boolean wantsPart() {
            if (depth < 0 || depth > TEXT_BYTES) {
                return false;
            }
            return first[depth] == NONE || (depth > 0 && second[depth] == NONE);
        }

        private void addPart(int part) {
            if (depth < 0 || depth > TEXT_BYTES) {
                return;
            }
            if (first[depth] == NONE) {
                first[depth] = part;
            } else {
                second[depth] = part;
            }
        }
    }
}

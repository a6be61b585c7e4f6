import java.util.ArrayList;
import java.util.Arrays;
import java.util.List;

/** Long runs of calls, drawn by a fixed rule, on the class and on the model: all answers must be the same. */
public final class ModelTest {
    private static final int CALLS = 512;
    private static final int[] EXTREMES = {Integer.MIN_VALUE, Integer.MAX_VALUE, -2, -1, 64, 65536, 1 << 30};

    private final ClockWires object = new ClockWires();
    private final Model model = new Model();
    private final int run;
    private final int sinkLimit;
    private final int spread;
    private final int errorRate;
    private long seed;
    private int calls;

    private ModelTest(int run) {
        this.run = run;
        seed = run * 7919L + 17;
        sinkLimit = 1 + Math.max(draw(8), draw(8));
        // Some runs crowd the sinks, so that ties and overlapping regions come up.
        spread = new int[] {4, 8, 20, 64}[draw(4)];
        errorRate = new int[] {0, 3, 30}[draw(3)];
    }

    public static void main(String[] args) {
        int runs = args.length > 0 ? Integer.parseInt(args[0]) : 150;
        for (int run = 0; run < runs; run++) {
            new ModelTest(run).play();
        }
        Script.finish();
    }

    private int draw(int bound) {
        seed = seed * 6364136223846793005L + 1442695040888963407L;
        return (int) Math.floorMod(seed >>> 33, (long) bound);
    }

    private void call(String name, int... arguments) {
        if (calls >= CALLS) {
            return;
        }
        calls++;
        Script.due("run " + run + ", call " + calls + ": " + name + Arrays.toString(arguments),
            Script.invoke(object, name, arguments), Script.invoke(model, name, arguments));
    }

    private void play() {
        for (int k = draw(sinkLimit); k > 0; k--) {
            call("sink", coordinate(), coordinate());
        }
        while (calls < CALLS) {
            int kind = draw(100);
            if (kind < 45) {
                change();
            } else if (kind < 48) {
                write();
            } else {
                ask();
            }
            if (draw(12) == 0) {
                call("digest");
            }
        }
    }

    private int odd(int usual) {
        return draw(100) < errorRate ? EXTREMES[draw(EXTREMES.length)] : usual;
    }

    private int coordinate() {
        return odd(draw(spread));
    }

    private int sink() {
        return odd(draw(sinkLimit + (draw(10) == 0 ? 1 : 0)));
    }

    private int node() {
        int joints = (int) model.told(4);
        return odd(draw(2) == 0 || joints == 0 ? draw(sinkLimit) : 8 + draw(joints + (draw(10) == 0 ? 1 : 0)));
    }

    private int value(int last) {
        return odd(draw(draw(4) == 0 ? last + 2 : last + 1));
    }

    private void change() {
        switch (draw(18)) {
            case 0, 1, 2 -> {
                if (model.told(3) < sinkLimit || draw(10) == 0) {
                    call("sink", coordinate(), coordinate());
                }
            }
            case 3 -> call("moves", sink(), coordinate(), coordinate());
            case 4 -> call("sets", sink(), value(1), odd(draw(3) == 0 ? draw(101) : draw(11)));
            case 5 -> call("skew", odd(draw(3) == 0 ? 0 : draw(draw(2) == 0 ? 10 : 101)));
            case 6 -> call("source", odd(draw(64)), odd(draw(64)));
            case 7, 8 -> call("joins", node(), node());
            case 9 -> call("pairs");
            case 10 -> {
                if (draw(4) == 0) {
                    call("frees");
                }
            }
            case 11 -> {
                call("cuts", node());
                call("grafts", node(), node());
            }
            case 12 -> call("grafts", node(), node());
            case 13 -> call("grafts", node(), -1);
            case 14, 15 -> call("exchanges", node(), node());
            case 16 -> call("betters");
            default -> {
                for (int times = draw(20) == 0 ? 9 : 1; times > 0; times--) {
                    call("back");
                }
            }
        }
    }

    private void ask() {
        switch (draw(15)) {
            case 0 -> call("end", sink(), value(3));
            case 1 -> call("touched", odd(draw(9)));
            case 2 -> call("at", coordinate(), coordinate());
            case 3, 4 -> call("node", node(), value(11));
            case 5 -> call("would", node(), node(), value(3));
            case 6 -> call("nearest");
            case 7 -> call("tops");
            case 8 -> {
                if (model.told(3) < 6 || draw(6) == 0) {
                    call("least", value(1));
                }
            }
            case 9 -> call("place", node(), value(2));
            case 10 -> call("arrival", sink());
            case 11 -> call("slow", sink());
            case 12 -> call("total", value(4));
            case 13 -> call("shown", node(), odd(draw(23)));
            default -> call("told", value(9));
        }
    }

    private void write() {
        if (draw(4) != 0) {
            call("clear");
        }
        StringBuilder text = new StringBuilder(topology());
        if (draw(3) == 0) {
            spoil(text);
        }
        for (int i = 0; i < text.length(); i++) {
            call("type", odd(text.charAt(i)));
        }
        call("builds");
    }

    private String topology() {
        List<String> parts = new ArrayList<>();
        int sinks = (int) Math.max(1, model.told(3));
        for (int k = 0; k < sinks; k++) {
            if (draw(8) != 0 || k == 0) {
                parts.add(draw(parts.size() + 1), "" + k);
            }
        }
        while (parts.size() > 1) {
            int i = draw(parts.size() - 1);
            parts.set(i, blank() + "(" + parts.get(i) + blank() + parts.remove(i + 1) + ")" + blank());
        }
        return parts.get(0);
    }

    private String blank() {
        return draw(5) == 0 ? " " : "";
    }

    private void spoil(StringBuilder text) {
        int i = draw(text.length());
        switch (draw(4)) {
            case 0 -> text.setLength(i);
            case 1 -> text.deleteCharAt(i);
            case 2 -> text.setCharAt(i, "() 0123456789x/:".charAt(draw(16)));
            default -> text.insert(i, "() 0123456789x/:".charAt(draw(16)));
        }
    }
}

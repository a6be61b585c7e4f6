import java.lang.reflect.InvocationTargetException;
import java.lang.reflect.Method;
import java.math.BigDecimal;
import java.util.Arrays;

/**
 * Runs calls that are written as the document writes them: "sink(0, 0) = 0; tops() = 1".
 * An answer may also be written in whole units: 3.5u is 3.5 * 65536, and 2uu is 2 * 65536 * 65536.
 */
final class Script {
    private static int wrong = 0;

    private Script() {
    }

    /** Makes a new object and compares each call's answer with the one behind "=". */
    static void check(String name, String calls) {
        made(name, calls);
    }

    /** A new object after the calls; an answer is compared where one is given. */
    static ClockWires made(String name, String calls) {
        ClockWires object = new ClockWires();
        for (String step : calls.split(";")) {
            String line = step.strip().replaceAll("\\s+", " ");
            if (!line.isEmpty()) {
                String[] sides = line.split("=");
                String call = sides[0].strip();
                long got = call(object, call);
                if (sides.length > 1) {
                    due(name + ": " + call, got, number(sides[1].strip()));
                }
            }
        }
        return object;
    }

    static long number(String text) {
        BigDecimal value = new BigDecimal(text.replace("u", ""));
        for (int i = text.indexOf('u'); i >= 0 && i < text.length(); i++) {
            value = value.multiply(BigDecimal.valueOf(65536));
        }
        return value.longValueExact();
    }

    static void due(String what, long got, long want) {
        if (got != want) {
            wrong++;
            System.out.println(what + " answered " + got + ", due is " + want);
        }
    }

    /** The calls that type a text into a new or cleared object. */
    static String typed(String text) {
        StringBuilder calls = new StringBuilder();
        for (int i = 0; i < text.length(); i++) {
            calls.append("type(").append((int) text.charAt(i)).append(") = ").append(i + 1).append("; ");
        }
        return calls.toString();
    }

    /** The calls that show the whole text of a node. */
    static String shows(int n, String text) {
        StringBuilder calls = new StringBuilder();
        for (int i = 0; i < text.length(); i++) {
            calls.append("shown(").append(n).append(", ").append(i).append(") = ")
                .append((int) text.charAt(i)).append("; ");
        }
        return calls.append("shown(").append(n).append(", ").append(text.length()).append(") = -1; ").toString();
    }

    static long call(Object object, String text) {
        int open = text.indexOf('(');
        String inside = text.substring(open + 1, text.length() - 1).strip();
        int[] arguments = inside.isEmpty()
            ? new int[0]
            : Arrays.stream(inside.split(",")).mapToInt(part -> Integer.parseInt(part.strip())).toArray();
        return invoke(object, text.substring(0, open), arguments);
    }

    static long invoke(Object object, String name, int... arguments) {
        Class<?>[] types = new Class<?>[arguments.length];
        Arrays.fill(types, int.class);
        try {
            Method method = object.getClass().getDeclaredMethod(name, types);
            Object[] boxed = Arrays.stream(arguments).boxed().toArray();
            return ((Number) method.invoke(object, boxed)).longValue();
        } catch (InvocationTargetException thrown) {
            throw new IllegalStateException(name + Arrays.toString(arguments) + " threw", thrown.getCause());
        } catch (ReflectiveOperationException missing) {
            throw new IllegalStateException(missing);
        }
    }

    /** Ends the test with exit code 1 if an answer was wrong. */
    static void finish() {
        System.out.println(wrong == 0 ? "all answers are as due" : wrong + " answers are not as due");
        if (wrong != 0) {
            System.exit(1);
        }
    }
}

import java.io.IOException;
import java.lang.reflect.Constructor;
import java.lang.reflect.Field;
import java.lang.reflect.Method;
import java.lang.reflect.Modifier;
import java.nio.file.Files;
import java.nio.file.Path;
import java.util.Map;
import java.util.Set;
import java.util.TreeMap;
import java.util.TreeSet;
import java.util.regex.Matcher;
import java.util.regex.Pattern;

/** The public face of the document, and those rules of LANGUAGE.md that can be read off the class or its text. */
public final class FaceTest {
    private static final Set<String> METHODS = Set.of("int sink 2", "int moves 3", "int sets 3", "int skew 1",
        "int source 2", "int end 2", "int touched 1", "int at 2", "int joins 2", "int pairs 0", "int frees 0",
        "int cuts 1", "int grafts 2", "int exchanges 2", "int betters 0", "int node 2", "int would 3", "int nearest 0",
        "int tops 0", "int least 1", "int place 2", "int arrival 1", "long slow 1", "int total 1", "int type 1",
        "int clear 0", "int builds 0", "int shown 2", "int back 0", "int told 1", "long digest 0");
    private static final Set<String> CONSTANTS = Set.of("NONE", "BAD", "NO", "FULL");
    private static final String[] FORBIDDEN = {"throw", "try", "catch", "finally", "synchronized", "assert", "import",
        "package", "protected", "\\w+Exact", "->", "::", "@\\w+", "native", "volatile", "goto", "new \\w+\\[[^]]*\\]\\[",
        "System\\.(?!arraycopy)", "String", "hashCode", "toString", "equals"};
    // A head, and the lines up to the brace below its first letter.
    private static final Pattern METHOD =
        Pattern.compile("(?ms)^( {4}(?: {4})?)(?:\\w+(?:\\[\\])? )*(\\w+)\\([^)]*\\) \\{\n(.*?)^\\1\\}$");
    private static final Pattern CALL = Pattern.compile("(\\w+)\\(");
    private static final Path SOURCE = Path.of("src/main/java/ClockWires.java");

    private static int wrong = 0;

    public static void main(String[] args) throws IOException {
        face();
        classes();
        source(Files.readString(SOURCE));
        System.out.println(wrong == 0 ? "the face is as due" : wrong + " things are not as due");
        if (wrong != 0) {
            System.exit(1);
        }
    }

    private static void due(String what, boolean holds) {
        if (!holds) {
            wrong++;
            System.out.println("not so: " + what);
        }
    }

    private static void face() {
        due("the class is public and final", Modifier.toString(ClockWires.class.getModifiers()).equals("public final"));
        due("the constants' values", ClockWires.NONE == -1 && ClockWires.BAD == -2 && ClockWires.NO == -3
            && ClockWires.FULL == -4);
        Set<String> methods = new TreeSet<>();
        for (Method method : ClockWires.class.getDeclaredMethods()) {
            String text = method.getReturnType() + " " + method.getName() + " " + method.getParameterCount();
            if (Modifier.isPublic(method.getModifiers())) {
                methods.add(text);
            } else {
                due(text + " is private", Modifier.isPrivate(method.getModifiers()) || method.isSynthetic());
                ownName(method);
            }
        }
        due("the public methods are " + METHODS + " and not " + methods, methods.equals(METHODS));
        for (Field field : ClockWires.class.getDeclaredFields()) {
            boolean constant = CONSTANTS.contains(field.getName());
            due(field + " is visible as it should be", constant == Modifier.isPublic(field.getModifiers())
                && constant != Modifier.isPrivate(field.getModifiers()));
        }
        Constructor<?>[] constructors = ClockWires.class.getDeclaredConstructors();
        due("one public constructor without parameters", constructors.length == 1
            && Modifier.isPublic(constructors[0].getModifiers()) && constructors[0].getParameterCount() == 0);
    }

    private static void ownName(Method method) {
        due(method + " has a name of its own", METHODS.stream().noneMatch(m -> m.contains(" " + method.getName() + " ")));
    }

    private static void classes() {
        Class<?>[] inside = ClockWires.class.getDeclaredClasses();
        due("at most twelve classes", inside.length < 12);
        for (Class<?> type : inside) {
            due(type + " is static and not public", Modifier.isStatic(type.getModifiers())
                && !Modifier.isPublic(type.getModifiers()) && !Modifier.isProtected(type.getModifiers()));
            checkMembers(type);
            for (Method method : type.getDeclaredMethods()) {
                ownName(method);
            }
        }
        checkMembers(ClockWires.class);
    }

    private static void checkMembers(Class<?> type) {
        int fields = 0;
        for (Field field : type.getDeclaredFields()) {
            boolean isStatic = Modifier.isStatic(field.getModifiers());
            due(field + " is final if static", !isStatic || Modifier.isFinal(field.getModifiers()));
            fields += isStatic ? 0 : 1;
        }
        due(type + " has at most twenty fields", fields <= 20);
        for (Method method : type.getDeclaredMethods()) {
            due(method + " has at most seven parameters", method.getParameterCount() <= 7);
        }
    }

    private static String withoutComments(String text) {
        return text.replaceAll("(?s)/\\*.*?\\*/", "").replaceAll("//[^\n]*", "");
    }

    private static void source(String text) {
        String code = withoutComments(text);
        for (String word : FORBIDDEN) {
            Matcher found = Pattern.compile(word.matches("\\w+") ? "\\b" + word + "\\b" : word).matcher(code);
            due("the source does without " + word, !found.find());
        }
        due("the source has signs 1 to 127 alone", text.chars().allMatch(c -> c > 0 && c < 128));
        methods(text);
    }

    // Methods are told apart by their names alone, so the depths found are never too small.
    private static void methods(String text) {
        Map<String, Set<String>> calls = new TreeMap<>();
        Matcher found = METHOD.matcher(text);
        while (found.find()) {
            String body = withoutComments(found.group(3));
            due(found.group(2) + " has at most sixty lines", found.group(3).lines().count() <= 60);
            Set<String> names = calls.computeIfAbsent(found.group(2), name -> new TreeSet<>());
            CALL.matcher(body).results().forEach(called -> names.add(called.group(1)));
        }
        due("the methods are found", calls.keySet().containsAll(Set.of("ClockWires", "digest", "growTrees", "addPart")));
        for (String name : calls.keySet()) {
            int depth = depth(name, calls, new TreeSet<>());
            due(name + " calls at most eight deep, and not " + depth, depth <= 8);
        }
    }

    // A method that calls itself counts once; one that comes back by way of others counts as endless.
    private static int depth(String name, Map<String, Set<String>> calls, Set<String> open) {
        if (!calls.containsKey(name)) {
            return 0;
        }
        if (!open.add(name)) {
            return 100;
        }
        int deepest = 0;
        for (String called : calls.get(name)) {
            if (!called.equals(name)) {
                deepest = Math.max(deepest, depth(called, calls, open));
            }
        }
        open.remove(name);
        return deepest + 1;
    }
}

import java.io.IOException;
import java.lang.reflect.Constructor;
import java.lang.reflect.Field;
import java.lang.reflect.Method;
import java.lang.reflect.Modifier;
import java.nio.file.Files;
import java.nio.file.Path;
import java.util.Set;
import java.util.TreeSet;
import java.util.regex.Matcher;
import java.util.regex.Pattern;

/** The public face of the document, and those rules of LANGUAGE.md that can be read off the class or its text. */
public final class FaceTest {
    private static final Set<String> METHODS = Set.of("int sink 2", "int moves 3", "int sets 3", "int skew 1",
        "int source 2", "int end 2", "int touched 1", "int at 2", "int joins 2", "int pairs 0", "int frees 0",
        "int cuts 1", "int grafts 2", "int exchanges 2", "int betters 0", "int node 2", "int would 3", "int nearest 0",
        "int tops 0", "int least 1", "int place 2", "int arrival 1", "long slow 1", "int total 1", "int type 1",
        "int clear 0", "int builds 0", "int shown 2", "int back 0", "int told 1", "long digest 0");
    private static final Set<String> CONSTANTS = Set.of("NONE", "BAD", "NO", "FULL");
    private static final String[] FORBIDDEN = {"throw", "try", "catch", "finally", "synchronized", "assert", "import",
        "package", "protected", "\\w+Exact", "->", "::", "@\\w+", "native", "volatile", "goto", "new \\w+\\[[^]]*\\]\\[",
        "System\\.(?!arraycopy)", "String", "hashCode", "toString", "equals"};
    private static final Path SOURCE = Path.of("src/main/java/ClockWires.java");

    private static int wrong = 0;

    public static void main(String[] args) throws IOException {
        face();
        classes();
        source(Files.readString(SOURCE));
        System.out.println(wrong == 0 ? "the face is as due" : wrong + " things are not as due");
        if (wrong != 0) {
            System.exit(1);
        }
    }

    private static void due(String what, boolean holds) {
        if (!holds) {
            wrong++;
            System.out.println("not so: " + what);
        }
    }

    private static void face() {
        due("the class is public and final", Modifier.toString(ClockWires.class.getModifiers()).equals("public final"));
        due("the constants' values", ClockWires.NONE == -1 && ClockWires.BAD == -2 && ClockWires.NO == -3
            && ClockWires.FULL == -4);
        Set<String> methods = new TreeSet<>();
        for (Method method : ClockWires.class.getDeclaredMethods()) {
            String text = method.getReturnType() + " " + method.getName() + " " + method.getParameterCount();
            if (Modifier.isPublic(method.getModifiers())) {
                methods.add(text);
            } else {
                due(text + " is private", Modifier.isPrivate(method.getModifiers()) || method.isSynthetic());
                due(text + " has a name of its own", METHODS.stream().noneMatch(m -> m.contains(" " + method.getName() + " ")));
            }
        }
        due("the public methods are " + METHODS + " and not " + methods, methods.equals(METHODS));
        for (Field field : ClockWires.class.getDeclaredFields()) {
            boolean constant = CONSTANTS.contains(field.getName());
            due(field + " is visible as it should be", constant == Modifier.isPublic(field.getModifiers())
                && constant != Modifier.isPrivate(field.getModifiers()));
        }
        Constructor<?>[] constructors = ClockWires.class.getDeclaredConstructors();
        due("one public constructor without parameters", constructors.length == 1
            && Modifier.isPublic(constructors[0].getModifiers()) && constructors[0].getParameterCount() == 0);
    }

    private static void classes() {
        Class<?>[] inside = ClockWires.class.getDeclaredClasses();
        due("at most twelve classes", inside.length < 12);
        for (Class<?> type : inside) {
            due(type + " is static and not public", Modifier.isStatic(type.getModifiers())
                && !Modifier.isPublic(type.getModifiers()) && !Modifier.isProtected(type.getModifiers()));
            checkMembers(type);
        }
        checkMembers(ClockWires.class);
    }

    private static void checkMembers(Class<?> type) {
        int fields = 0;
        for (Field field : type.getDeclaredFields()) {
            boolean isStatic = Modifier.isStatic(field.getModifiers());
            due(field + " is final if static", !isStatic || Modifier.isFinal(field.getModifiers()));
            fields += isStatic ? 0 : 1;
        }
        due(type + " has at most twenty fields", fields <= 20);
        for (Method method : type.getDeclaredMethods()) {
            due(method + " has at most seven parameters", method.getParameterCount() <= 7);
        }
    }

    private static void source(String text) {
        String code = text.replaceAll("(?s)/\\*.*?\\*/", "").replaceAll("//[^\n]*", "");
        for (String word : FORBIDDEN) {
            Matcher found = Pattern.compile(word.matches("\\w+") ? "\\b" + word + "\\b" : word).matcher(code);
            due("the source does without " + word, !found.find());
        }
        due("the source has signs 1 to 127 alone", text.chars().allMatch(c -> c > 0 && c < 128));
        methodLengths(text);
    }

    private static void methodLengths(String text) {
        String[] lines = text.split("\n");
        int start = 0;
        for (int i = 0; i < lines.length; i++) {
            if (lines[i].matches(" {4}( {4})?\\w.*\\) \\{")) {
                start = i;
            } else if (lines[i].matches(" {4}( {4})?}")) {
                due("at most sixty lines from line " + (start + 1), lines[start].contains("class") || i - start < 60);
            }
        }
    }
}

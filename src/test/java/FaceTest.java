import java.io.IOException;
import java.lang.reflect.Field;
import java.lang.reflect.Method;
import java.lang.reflect.Modifier;
import java.nio.file.Files;
import java.nio.file.Path;
import java.util.ArrayList;
import java.util.Collections;
import java.util.List;
import java.util.Set;
import java.util.regex.Matcher;
import java.util.regex.Pattern;

/** The face of the class, and what of LANGUAGE.md can be seen from outside or in the file's words. */
public final class FaceTest {
    private static final Path FILE = Path.of("src/main/java/CubeChecker.java");
    private static final List<String> FACE = List.of("write(int)", "wipe()", "fault()", "lay()", "edge(int,int)",
        "turn(int)", "so(int,int,int,int)", "gone(int,int,int,int)", "real(int,int)", "run(int)", "look(int,int,int)",
        "looked(int)", "may(int,int,int)", "state(int,int)", "found(int)", "path(int)", "mend()", "check(int)", "undo()",
        "count(int)");
    private static final Set<Class<?>> CONSTANTS = Set.of(int.class, long.class, boolean.class, char.class, String.class,
        int[].class, long[].class, char[].class, byte[].class);
    private static final int LINES_MOST = 60;
    private static int wrong = 0;

    private static void is(boolean so, String what) {
        if (!so) {
            wrong++;
            System.out.println("not as it should be: " + what);
        }
    }

    private static void members() {
        Class<?> c = CubeChecker.class;
        is(c.getModifiers() == (Modifier.PUBLIC | Modifier.FINAL), "public and final");
        is(c.getDeclaredConstructors().length == 1 && c.getConstructors().length == 1, "one constructor");
        List<String> methods = new ArrayList<>();
        for (Method m : c.getDeclaredMethods()) {
            if (Modifier.isPrivate(m.getModifiers())) continue;
            StringBuilder takes = new StringBuilder();
            for (Class<?> t : m.getParameterTypes()) takes.append(takes.length() == 0 ? "" : ",").append(t);
            methods.add(m.getName() + "(" + takes + ")");
            is(m.getModifiers() == Modifier.PUBLIC && m.getReturnType() == int.class, m.getName());
        }
        List<String> due = new ArrayList<>(FACE);
        Collections.sort(due);
        Collections.sort(methods);
        is(methods.equals(due), "the methods " + methods);
        for (Field f : c.getDeclaredFields()) {
            type(f);
            boolean constant = List.of("BAD", "NO", "FULL", "NONE").contains(f.getName());
            is(constant == Modifier.isPublic(f.getModifiers()) && constant != Modifier.isPrivate(f.getModifiers()),
                "field " + f.getName());
        }
        is(CubeChecker.BAD == -1 && CubeChecker.NO == -2 && CubeChecker.FULL == -3 && CubeChecker.NONE == -4, "constants");
        is(c.getDeclaredClasses().length <= 12, "twelve classes");
        for (Class<?> inside : c.getDeclaredClasses()) inside(inside);
    }

    private static void inside(Class<?> c) {
        is(Modifier.isStatic(c.getModifiers()) && Modifier.isPrivate(c.getModifiers()), c + " is private and static");
        int fields = 0;
        for (Field f : c.getDeclaredFields()) {
            type(f);
            if (!Modifier.isStatic(f.getModifiers())) fields++;
            else is(Modifier.isFinal(f.getModifiers()), f + " is final");
        }
        is(fields <= 20, c + " has twenty fields at most");
        for (Method m : c.getDeclaredMethods()) {
            is(m.getParameterCount() <= 7, m + " takes seven at most");
            for (String face : FACE) is(!face.startsWith(m.getName() + "("), m + " bears a name of the face");
        }
    }

    /** Constants of few types; else numbers, own classes, rows of these, and tables of numbers. */
    private static void type(Field f) {
        Class<?> type = f.getType();
        if (Modifier.isStatic(f.getModifiers())) {
            is(Modifier.isFinal(f.getModifiers()) && CONSTANTS.contains(type), f + " is a constant");
            return;
        }
        Class<?> row = type.isArray() ? type.getComponentType() : type;
        Class<?> one = row.isArray() ? row.getComponentType() : row;
        is(one.isPrimitive() || !row.isArray() && one.getDeclaringClass() == CubeChecker.class, f + " has a type of LANGUAGE.md");
    }

    /** From a line that opens a method to the one that closes it; what it has inside is shorter. */
    private static void lengths() throws IOException {
        List<String> lines = Files.readAllLines(FILE);
        for (int i = 0; i < lines.size(); i++) {
            Matcher opened = Pattern.compile("^( {4}| {8})\\S.*\\{$").matcher(lines.get(i));
            if (!opened.find() || lines.get(i).contains(" class ")) continue;
            int end = i;
            while (end < lines.size() && !lines.get(end).startsWith(opened.group(1) + "}")) end++;
            is(end - i < LINES_MOST, "the length of " + lines.get(i).trim());
        }
    }

    private static void words() throws IOException {
        String code = Files.readString(FILE).replaceAll("(?s)/\\*.*?\\*/", "").replaceAll("//[^\n]*", "");
        Matcher m = Pattern.compile("\\b(throw|throws|try|catch|synchronized|assert|lambda|System\\.(?!arraycopy)\\w+|"
            + "package|double|float|Random|Thread|equals|hashCode|toString)\\b|->|::").matcher(code);
        while (m.find()) is(false, "the word " + m.group());
        Matcher imports = Pattern.compile("import ([^;]*);").matcher(code);
        while (imports.find()) is(imports.group(1).equals("java.util.Arrays"), imports.group());
        for (char letter : Files.readString(FILE).toCharArray()) is(letter < 128, "the sign " + (int) letter);
    }

    public static void main(String[] args) throws IOException {
        members();
        lengths();
        words();
        System.out.println(wrong == 0 ? "the face is as it should be" : wrong + " things are not");
        if (wrong != 0) System.exit(1);
    }
}

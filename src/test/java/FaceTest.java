import java.io.IOException;
import java.lang.reflect.Constructor;
import java.lang.reflect.Field;
import java.lang.reflect.Method;
import java.lang.reflect.Modifier;
import java.lang.reflect.Parameter;
import java.nio.charset.StandardCharsets;
import java.nio.file.Files;
import java.nio.file.Path;
import java.util.ArrayList;
import java.util.List;
import java.util.StringJoiner;
import java.util.TreeSet;

/** The public face: what the class shows is what the document shows, line by line, and nothing else. */
public final class FaceTest {
    private static final String[] FACE = {
        "public static final int INVALID_ARGUMENT = -10000001;",
        "public static final int NOT_POSSIBLE = -10000002;",
        "public static final int LIMIT_REACHED = -10000003;",
        "public static final int NOT_FOUND = -10000004;",
        "public RowVotes();",
        "public int set(int what, int value);",
        "public int thing(int top, int bottom, int position, int speed, int width, int brightness);",
        "public int turn(int thing, int speed);",
        "public int thingOf(int thing, int what);",
        "public int blind(int row, int is);",
        "public int shows(int row, int column, int time);",
        "public int shoot();",
        "public int forget(int frame);",
        "public int frameOf(int frame, int what);",
        "public int pixel(int frame, int row, int column);",
        "public int edges(int frame, int row);",
        "public int pass(int ticks);",
        "public int vote(int first, int second, int row);",
        "public int shift(int first, int second);",
        "public int voters(int first, int second, int shift);",
        "public int dissent(int first, int second);",
        "public int speed(int first, int second);",
        "public int slant(int frame);",
        "public int slantSpeed(int frame);",
        "public int weighed(int first, int second);",
        "public int judge(int first, int second);",
        "public int rowOf(int row, int what);",
        "public int bestWait(int frame, int what);",
        "public int motions(int thing, int what);",
        "public int periods();",
        "public int fitting(int frame);",
        "public int count(int what);",
        "public int undo();",
        "public int type(int character);",
        "public int clearText();",
        "public int fault(int what);",
        "public int play();",
    };

    public static void main(String[] args) throws Exception {
        List<String> face = List.of(FACE);
        Due.is("lines of the face: constants, the constructor, methods", face.size(), 4 + 1 + 32);
        compare("the class", shown(), face);
        List<String> document = documentFace(Path.of("../shared/DOC.md"));
        if (!document.isEmpty()) {
            compare("the document", document, face);
        }
        Due.is("the class is public and final", RowVotes.class.getModifiers(), Modifier.PUBLIC | Modifier.FINAL);
        Due.is("it extends", RowVotes.class.getSuperclass().getName(), "java.lang.Object");
        Due.is("it implements", RowVotes.class.getInterfaces().length, 0);
        Due.is("its package", RowVotes.class.getPackageName(), "");
        hiddenMembers();
        Due.end();
    }

    private static void compare(String what, List<String> got, List<String> want) {
        TreeSet<String> beside = new TreeSet<>(got);
        beside.removeAll(want);
        TreeSet<String> missing = new TreeSet<>(want);
        missing.removeAll(got);
        Due.is(what + " shows beside the face", beside.toString(), "[]");
        Due.is(what + " lacks of the face", missing.toString(), "[]");
        Due.is(what + " has lines", got.size(), want.size());
    }

    /** All members that are not private, written as the document writes them. */
    private static List<String> shown() throws IllegalAccessException {
        List<String> lines = new ArrayList<>();
        for (Field field : RowVotes.class.getDeclaredFields()) {
            if (!Modifier.isPrivate(field.getModifiers())) {
                lines.add(Modifier.toString(field.getModifiers()) + " " + field.getType() + " " + field.getName()
                    + " = " + field.getInt(null) + ";");
            }
        }
        for (Constructor<?> constructor : RowVotes.class.getDeclaredConstructors()) {
            if (!Modifier.isPrivate(constructor.getModifiers())) {
                lines.add(Modifier.toString(constructor.getModifiers()) + " " + constructor.getName()
                    + parameters(constructor.getParameters()) + ";");
            }
        }
        for (Method method : RowVotes.class.getDeclaredMethods()) {
            if (!Modifier.isPrivate(method.getModifiers()) && !method.isSynthetic()) {
                lines.add(Modifier.toString(method.getModifiers()) + " " + method.getReturnType() + " " + method.getName()
                    + parameters(method.getParameters()) + ";");
            }
        }
        return lines;
    }

    /** Its names are there because .ci/run compiles the program with -parameters. */
    private static String parameters(Parameter[] parameters) {
        StringJoiner joined = new StringJoiner(", ", "(", ")");
        for (Parameter parameter : parameters) {
            joined.add(parameter.getType() + " " + parameter.getName());
        }
        return joined.toString();
    }

    /** The lines of the document's block of code, or none where the document is not there. */
    private static List<String> documentFace(Path document) throws IOException {
        List<String> face = new ArrayList<>();
        if (!Files.isReadable(document)) {
            return face;
        }
        boolean inside = false;
        for (String line : Files.readAllLines(document, StandardCharsets.UTF_8)) {
            if (line.startsWith("```")) {
                inside = !inside;
            } else if (inside && line.startsWith("    ")) {
                face.add(line.strip());
            }
        }
        return face;
    }

    private static void hiddenMembers() {
        TreeSet<String> names = new TreeSet<>();
        for (Method method : RowVotes.class.getDeclaredMethods()) {
            if (Modifier.isPublic(method.getModifiers())) {
                names.add(method.getName());
            }
        }
        Due.is("no name stands for two methods", names.size(), 32);
        for (Class<?> inside : RowVotes.class.getDeclaredClasses()) {
            int modifiers = inside.getModifiers();
            Due.is(inside.getName() + " is static", Modifier.isStatic(modifiers) ? 1 : 0, 1);
            Due.is(inside.getName() + " is public or protected", modifiers & (Modifier.PUBLIC | Modifier.PROTECTED), 0);
        }
        for (Method method : RowVotes.class.getDeclaredMethods()) {
            if (Modifier.isPrivate(method.getModifiers())) {
                Due.is(method.getName() + " bears a public name", names.contains(method.getName()) ? 1 : 0, 0);
            }
        }
    }
}

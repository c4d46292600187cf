import java.io.File;
import java.lang.reflect.Method;
import java.lang.reflect.Modifier;
import java.lang.reflect.Parameter;
import java.nio.charset.StandardCharsets;
import java.nio.file.Files;
import java.nio.file.Path;
import java.util.Arrays;
import java.util.List;
import java.util.StringJoiner;
import java.util.regex.Matcher;
import java.util.regex.Pattern;

/** README.md says what is so: its examples answer as it tells, and no call, setting or test is left out. */
public final class ReadmeTest {
    private static final Pattern CALL = Pattern.compile("camera\\.(\\w+)\\(([-0-9, ]*)\\);\\s+// (-?\\d+|[A-Z_]+)\\b.*");
    private static final Pattern TYPED = Pattern.compile("for \\(char sign : \"([^\"]*)\"\\.toCharArray\\(\\)\\) \\{");
    private static final Pattern SETTING = Pattern.compile("\\| (\\d) \\| [^|]+ \\| (\\d+) to (\\d+) \\| (\\d+) \\|");

    private static RowVotes camera = null;
    private static String text = "";

    public static void main(String[] args) throws Exception {
        List<String> lines = Files.readAllLines(Path.of("README.md"), StandardCharsets.UTF_8);
        boolean code = false;
        for (String line : lines) {
            if (line.startsWith("```")) {
                code = line.equals("```java");
            } else if (code) {
                follow(line.strip());
            }
        }
        String readme = String.join("\n", lines);
        namesCalls(readme);
        namesTests(readme);
        tellsSettings(lines);
        Due.end();
    }

    /** Does what a line of an example says, and compares the answer with that behind "//". */
    private static void follow(String line) throws Exception {
        Matcher call = CALL.matcher(line);
        Matcher typed = TYPED.matcher(line);
        if (line.equals("RowVotes camera = new RowVotes();")) {
            camera = new RowVotes();
        } else if (call.matches()) {
            Due.is("README: " + line, answer(call.group(1), call.group(2)), due(call.group(3)));
        } else if (typed.matches()) {
            text = typed.group(1);
        } else if (line.equals("camera.type(sign);")) {
            for (char sign : text.toCharArray()) {
                camera.type(sign);
            }
        } else {
            Due.is("README: \"" + line + "\" is understood", line.equals("}") ? 1 : 0, 1);
        }
    }

    private static int answer(String name, String arguments) throws Exception {
        Object[] numbers = Arrays.stream(arguments.split(",")).map(String::strip).filter(s -> !s.isEmpty())
            .map(Integer::valueOf).toArray();
        Class<?>[] types = new Class<?>[numbers.length];
        Arrays.fill(types, int.class);
        return (int) RowVotes.class.getMethod(name, types).invoke(camera, numbers);
    }

    private static long due(String told) throws Exception {
        return Character.isLetter(told.charAt(0)) ? RowVotes.class.getField(told).getInt(null) : Long.parseLong(told);
    }

    private static void namesCalls(String readme) {
        for (Method method : RowVotes.class.getDeclaredMethods()) {
            if (Modifier.isPublic(method.getModifiers())) {
                StringJoiner call = new StringJoiner(", ", "| `" + method.getName() + "(", ")` |");
                for (Parameter parameter : method.getParameters()) {
                    call.add(parameter.getName());
                }
                Due.is("README has the call " + call, readme.contains(call.toString()) ? 1 : 0, 1);
            }
        }
    }

    private static void namesTests(String readme) {
        String[] files = new File("src/test/java").list();
        Due.is("there are tests", files == null ? 0 : 1, 1);
        for (String file : files == null ? new String[0] : files) {
            if (file.endsWith("Test.java")) {
                String row = "| `" + file.replace(".java", "") + "` |";
                Due.is("README has the test " + file, readme.contains(row) ? 1 : 0, 1);
            }
        }
    }

    private static void tellsSettings(List<String> lines) {
        int told = 0;
        for (String line : lines) {
            Matcher setting = SETTING.matcher(line);
            if (setting.matches()) {
                int what = Integer.parseInt(setting.group(1));
                int least = Integer.parseInt(setting.group(2));
                int most = Integer.parseInt(setting.group(3));
                RowVotes x = new RowVotes();
                Due.is(line + ": first value", x.count(10 + what), Integer.parseInt(setting.group(4)));
                Due.is(line + ": below", x.set(what, least - 1), RowVotes.INVALID_ARGUMENT);
                Due.is(line + ": above", x.set(what, most + 1), RowVotes.INVALID_ARGUMENT);
                Due.is(line + ": least", x.set(what, least), Integer.parseInt(setting.group(4)));
                Due.is(line + ": most", x.set(what, most), least);
                told++;
            }
        }
        Due.is("settings that README tells", told, 8);
    }
}

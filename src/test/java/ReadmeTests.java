import java.lang.reflect.Method;
import java.nio.file.Files;
import java.nio.file.Path;
import java.util.ArrayList;
import java.util.List;
import java.util.Set;
import java.util.TreeSet;
import java.util.regex.Matcher;
import java.util.regex.Pattern;

/** Makes the calls of README.md's example, one after another, and compares their answers with those told there. */
public final class ReadmeTests {
    private static final Pattern CALL = Pattern.compile("v\\.(\\w+)\\(([^)]*)\\);\\s*// (-?\\d+|true|false)\\b.*");

    private static int wrong = 0;

    private static void fault(String what) {
        wrong++;
        System.out.println(what);
    }

    private static List<String> example(String readme) {
        List<String> lines = new ArrayList<>();
        boolean inside = false;
        for (String line : readme.split("\n")) {
            if (line.startsWith("```")) {
                inside = line.equals("```java");
            } else if (inside && !line.isBlank()) {
                lines.add(line.strip());
            }
        }
        return lines;
    }

    private static Method methodNamed(String name) {
        for (Method method : JournalVolume.class.getDeclaredMethods()) {
            if (method.getName().equals(name)) {
                return method;
            }
        }
        throw new IllegalArgumentException("README.md has a call of " + name);
    }

    private static Object answer(JournalVolume v, String name, String arguments) throws ReflectiveOperationException {
        List<Object> given = new ArrayList<>();
        for (String argument : arguments.isBlank() ? new String[0] : arguments.split(", ")) {
            boolean word = argument.equals("true") || argument.equals("false");
            given.add(word ? (Object) Boolean.valueOf(argument) : (Object) Integer.valueOf(argument));
        }
        return methodNamed(name).invoke(v, given.toArray());
    }

    private static void makeCalls(List<String> lines) throws ReflectiveOperationException {
        JournalVolume v = new JournalVolume();
        for (String line : lines.subList(1, lines.size())) {
            Matcher call = CALL.matcher(line);
            if (!call.matches()) {
                fault("no call with its answer: " + line);
                continue;
            }
            String got = answer(v, call.group(1), call.group(2)).toString();
            if (!got.equals(call.group(3))) {
                fault("answered " + got + ": " + line);
            }
        }
    }

    private static void tellsOfEachMethod(String readme) {
        Set<String> names = new TreeSet<>();
        for (Method method : JournalVolume.class.getMethods()) {
            if (method.getDeclaringClass() == JournalVolume.class) {
                names.add(method.getName());
            }
        }
        for (String name : names) {
            if (!readme.contains("`" + name + "(")) {
                fault("README.md does not tell of " + name);
            }
        }
    }

    public static void main(String[] args) throws Exception {
        String readme = Files.readString(Path.of("README.md"));
        List<String> lines = example(readme);
        if (lines.size() < 2 || !lines.get(0).equals("JournalVolume v = new JournalVolume();")) {
            fault("README.md has no example");
        } else {
            makeCalls(lines);
        }
        tellsOfEachMethod(readme);
        System.out.println(wrong == 0 ? "README.md tells what the calls answer" : wrong + " things are not so");
        if (wrong != 0) {
            System.exit(1);
        }
    }
}

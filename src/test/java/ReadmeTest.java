import java.io.IOException;
import java.lang.reflect.Method;
import java.lang.reflect.Modifier;
import java.nio.file.Files;
import java.nio.file.Path;
import java.util.ArrayList;
import java.util.List;
import java.util.TreeSet;
import java.util.regex.Matcher;
import java.util.regex.Pattern;

/** The example in README.md: each line is called as it stands there, and must answer what it says there. */
public final class ReadmeTest {
    private static final Check check = new Check("ReadmeTest");
    private static final Class<CutLatticeDetect> FACE = CutLatticeDetect.class;
    private static final Pattern MAKING =
            Pattern.compile("CutLatticeDetect x = new CutLatticeDetect\\((\\d+), (\\d+)\\); +// .*");
    private static final Pattern CALL =
            Pattern.compile("(?:int m = )?x\\.(\\w+)\\((.*)\\); +// (-?\\w+)(?::.*)?");

    private static CutLatticeDetect x = null;
    private static int m = -1;

    public static void main(String[] args) throws IOException, ReflectiveOperationException {
        String readme = Files.readString(Path.of("README.md"));
        TreeSet<String> called = new TreeSet<>();
        for (String line : exampleIn(readme)) {
            Matcher making = MAKING.matcher(line);
            Matcher call = CALL.matcher(line);
            if (making.matches()) {
                x = new CutLatticeDetect(Integer.parseInt(making.group(1)), Integer.parseInt(making.group(2)));
            } else if (x != null && call.matches()) {
                called.add(call.group(1));
                answersAsWritten(line, call);
            } else {
                check.due("a line of the example", line, "a call with its answer");
            }
        }
        check.due("methods in the example", called, publicMethods());
        for (String name : publicMethods()) {
            check.due("the table tells of " + name, readme.contains("| `" + name + "("), true);
        }
        check.end();
    }

    private static List<String> exampleIn(String readme) {
        String[] parts = readme.split("```");
        check.due("blocks of code in README.md", parts.length, 3);
        check.due("the language of the block", parts[1].startsWith("java\n"), true);
        List<String> lines = new ArrayList<>();
        for (String line : parts[1].substring("java\n".length()).split("\n")) {
            if (!line.isBlank()) {
                lines.add(line);
            }
        }
        return lines;
    }

    private static TreeSet<String> publicMethods() {
        TreeSet<String> names = new TreeSet<>();
        for (Method method : FACE.getDeclaredMethods()) {
            if (Modifier.isPublic(method.getModifiers())) {
                names.add(method.getName());
            }
        }
        return names;
    }

    private static void answersAsWritten(String line, Matcher call) throws ReflectiveOperationException {
        List<Object> arguments = new ArrayList<>();
        List<Class<?>> types = new ArrayList<>();
        for (String word : call.group(2).split(", ")) {
            if (!word.isEmpty()) {
                arguments.add(meaningOf(word));
                types.add(int.class);
            }
        }
        Method method = FACE.getMethod(call.group(1), types.toArray(new Class<?>[0]));
        Object got = method.invoke(x, arguments.toArray());
        if (line.startsWith("int m = ")) {
            m = (Integer) got;
        }
        check.due(line, got, meaningOf(call.group(3)));
    }

    private static Object meaningOf(String word) throws ReflectiveOperationException {
        if (word.equals("m")) {
            return m;
        }
        if (word.equals("true") || word.equals("false")) {
            return word.equals("true");
        }
        String name = word.replace("CutLatticeDetect.", "");
        return name.matches("[A-Z_]+") ? FACE.getField(name).get(null) : (Object) Integer.valueOf(name);
    }
}

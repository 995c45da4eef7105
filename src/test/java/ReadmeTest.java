import java.io.IOException;
import java.lang.reflect.Method;
import java.lang.reflect.Modifier;
import java.nio.file.Files;
import java.nio.file.Path;
import java.util.Arrays;
import java.util.List;
import java.util.regex.Matcher;
import java.util.regex.Pattern;

// The example in README.md, call by call: what stands behind "//" begins with the answer.
public final class ReadmeTest {
    private static final Pattern CALL = Pattern.compile("game\\.(\\w+)\\((.*?)\\);(?:\\s*//\\s*([-\\w]+).*)?");
    private static final Pattern MAKING = Pattern.compile("MeanPayoffGame game = new MeanPayoffGame\\((\\d)\\);.*");

    private static int wrong = 0;

    private static void fault(String text) {
        wrong++;
        System.out.println("README.md: " + text);
    }

    private static List<String> example(List<String> lines) {
        int first = lines.indexOf("```java") + 1;
        List<String> rest = lines.subList(first, lines.size());
        return rest.subList(0, rest.indexOf("```"));
    }

    private static Object number(String text) {
        switch (text) {
            case "MeanPayoffGame.MAX": return MeanPayoffGame.MAX;
            case "MeanPayoffGame.MIN": return MeanPayoffGame.MIN;
            default: return Integer.valueOf(text);
        }
    }

    private static Method method(String name) {
        for (Method m : MeanPayoffGame.class.getMethods()) {
            if (m.getName().equals(name)) return m;
        }
        throw new IllegalArgumentException(name);
    }

    private static void call(MeanPayoffGame game, String line) throws ReflectiveOperationException {
        Matcher parts = CALL.matcher(line);
        if (!parts.matches()) {
            fault("not a call: " + line);
            return;
        }
        String arguments = parts.group(2);
        Object[] numbers = arguments.isEmpty() ? new Object[0]
            : Arrays.stream(arguments.split(", ")).map(ReadmeTest::number).toArray();
        Object answer = method(parts.group(1)).invoke(game, numbers);
        String want = parts.group(3) == null ? "null" : parts.group(3);
        if (!want.equals(String.valueOf(answer))) {
            fault(line + " answered " + answer);
        }
    }

    private static void runExample(List<String> lines) throws ReflectiveOperationException {
        Matcher making = MAKING.matcher(lines.get(0));
        if (!making.matches()) {
            fault("does not make an object: " + lines.get(0));
            return;
        }
        MeanPayoffGame game = new MeanPayoffGame(Integer.parseInt(making.group(1)));
        for (String line : lines.subList(1, lines.size())) {
            if (!line.isEmpty()) call(game, line);
        }
    }

    public static void main(String[] args) throws IOException, ReflectiveOperationException {
        List<String> lines = Files.readAllLines(Path.of("README.md"));
        runExample(example(lines));
        String text = String.join("\n", lines);
        for (Method m : MeanPayoffGame.class.getDeclaredMethods()) {
            boolean isPublic = Modifier.isPublic(m.getModifiers());
            if (isPublic && !text.contains("`" + m.getName() + "(")) fault("does not tell of " + m.getName());
        }
        if (!text.contains(".ci/run")) fault("does not tell how to run the tests");
        System.out.println(wrong == 0 ? "README.md is as due" : wrong + " faults");
        if (wrong != 0) System.exit(1);
    }
}

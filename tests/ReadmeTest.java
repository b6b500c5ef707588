import java.io.IOException;
import java.lang.reflect.InvocationTargetException;
import java.lang.reflect.Method;
import java.lang.reflect.Modifier;
import java.nio.file.Files;
import java.nio.file.Path;
import java.util.regex.Matcher;
import java.util.regex.Pattern;

/**
 * What README.md shows holds: its examples answer as they are told there, and each method and each test is told. The
 * arguments are README.md and the folder of the tests.
 */
public final class ReadmeTest {
    private static final Check CHECK = new Check();
    private static final Pattern BLOCK = Pattern.compile("(?s)```java\n(.*?)```");
    private static final Pattern STEP = Pattern.compile("new BallotRing\\(\\)|write\\(ring, ((?:\"[^\"]*\"[\\s+]*)+)\\);"
        + "|ring\\.(\\w+)\\(([-\\w, ]*)\\);[ \t]*// (-?\\d+|NONE|true|false)\\b");
    private static final Pattern TOLD = Pattern.compile("ring\\.\\w+\\([^)]*\\);[ \t]*//");
    private static final Pattern QUOTED = Pattern.compile("\"([^\"]*)\"");

    public static void main(String[] args) throws Exception {
        String readme = Files.readString(Path.of(args[0]));
        int calls = 0;
        Matcher block = BLOCK.matcher(readme);
        while (block.find()) {
            calls += play(block.group(1));
            functionsAreThere(block.group(1), Files.readString(Path.of(args[1], "Check.java")));
        }
        CHECK.due("calls of examples", calls, TOLD.matcher(readme).results().count());
        CHECK.due("calls were found", calls > 40, true);
        everyMethodIsTold(readme);
        everyTestIsTold(readme, args[1]);
        CHECK.close("ReadmeTest");
    }

    /** Does what an example's lines say, on the object that was made last. */
    private static int play(String example) throws Exception {
        int calls = 0;
        BallotRing ring = new BallotRing();
        Matcher step = STEP.matcher(example);
        while (step.find()) {
            if (step.group(1) != null) {
                Check.write(ring, quoted(step.group(1)));
            } else if (step.group(2) != null) {
                calls++;
                CHECK.due("README: " + step.group(), answer(ring, step.group(2), step.group(3)), due(step.group(4)));
            } else {
                ring = new BallotRing();
            }
        }
        return calls;
    }

    /** Functions that are shown are those that all tests use. */
    private static void functionsAreThere(String example, String check) {
        if (example.startsWith("static ")) {
            String within = "    " + example.strip().replace("\n", "\n    ").replace("\n    \n", "\n\n");
            CHECK.due("functions of README in Check.java", check.contains(within), true);
        }
    }

    private static String quoted(String texts) {
        StringBuilder all = new StringBuilder();
        Matcher text = QUOTED.matcher(texts);
        while (text.find()) {
            all.append(text.group(1));
        }
        return all.toString();
    }

    private static long due(String told) {
        return switch (told) {
            case "NONE" -> BallotRing.NONE;
            case "true" -> 1;
            case "false" -> 0;
            default -> Integer.parseInt(told);
        };
    }

    private static long answer(BallotRing ring, String name, String numbers)
            throws IllegalAccessException, InvocationTargetException {
        String[] told = numbers.isBlank() ? new String[0] : numbers.split(", *");
        Object[] given = new Object[told.length];
        for (int i = 0; i < told.length; i++) {
            given[i] = Integer.decode(told[i]);
        }
        for (Method method : BallotRing.class.getDeclaredMethods()) {
            if (method.getName().equals(name) && method.getParameterCount() == given.length) {
                Object answer = method.invoke(ring, given);
                return answer instanceof Boolean so ? so ? 1 : 0 : (Integer) answer;
            }
        }
        throw new IllegalArgumentException("README tells " + name + "(" + numbers + "), which there is not");
    }

    private static void everyMethodIsTold(String readme) {
        for (Method method : BallotRing.class.getDeclaredMethods()) {
            if (Modifier.isPublic(method.getModifiers())) {
                CHECK.due("README tells " + method.getName(), readme.contains("| `" + method.getName() + "("), true);
            }
        }
        CHECK.due("README tells what NONE is", readme.contains("`NONE`"), true);
    }

    private static void everyTestIsTold(String readme, String folder) throws IOException {
        try (var files = Files.list(Path.of(folder))) {
            for (Path file : files.toList()) {
                String name = file.getFileName().toString().replace(".java", "");
                CHECK.due("README tells " + name, readme.contains("`" + name), true);
            }
        }
    }
}

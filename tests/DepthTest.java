import java.io.PrintWriter;
import java.io.StringWriter;
import java.nio.file.Files;
import java.nio.file.Path;
import java.util.ArrayList;
import java.util.HashMap;
import java.util.List;
import java.util.Map;
import java.util.TreeSet;
import java.util.regex.Matcher;
import java.util.regex.Pattern;
import java.util.spi.ToolProvider;
import java.util.stream.Stream;

/** Calls go at most eight deep, and none comes back to itself. The argument is the folder of the compiled classes. */
public final class DepthTest {
    private static final Check CHECK = new Check();
    private static final int MOST = 8;
    private static final Pattern HEAD = Pattern.compile("^ {2}\\S.*?([\\w$.]+)\\(.*\\).*;$");
    private static final Pattern CALL = Pattern.compile("// Method (?:([\\w/$]+)\\.)?\"?([\\w<>]+)\"?:");
    private static final Map<String, TreeSet<String>> CALLED = new HashMap<>();
    private static final Map<String, Integer> DEPTH = new HashMap<>();

    public static void main(String[] args) throws Exception {
        ToolProvider javap = ToolProvider.findFirst("javap").orElse(null);
        if (javap == null) {
            System.out.println("DepthTest: no javap here, so nothing was looked at");
            return;
        }
        try (Stream<Path> files = Files.list(Path.of(args[0]))) {
            for (Path file : files.filter(f -> f.getFileName().toString().matches("BallotRing(\\$.*)?\\.class")).toList()) {
                read(javap, file);
            }
        }
        CHECK.due("methods were found", CALLED.size() > 100, true);
        for (String method : CALLED.keySet()) {
            int deep = depthOf(method, new ArrayList<>());
            CHECK.due("at most eight deep from " + method + ", which goes " + deep, deep <= MOST, true);
        }
        CHECK.close("DepthTest");
    }

    private static void read(ToolProvider javap, Path file) {
        StringWriter text = new StringWriter();
        PrintWriter out = new PrintWriter(text);
        javap.run(out, out, "-c", "-p", file.toString());
        String owner = file.getFileName().toString().replace(".class", "");
        String method = "";
        for (String line : text.toString().split("\n")) {
            Matcher head = HEAD.matcher(line);
            Matcher call = CALL.matcher(line);
            if (head.find()) {
                String name = head.group(1);
                method = owner + "." + (name.equals(owner) ? "<init>" : name);
                CALLED.putIfAbsent(method, new TreeSet<>());
            } else if (call.find() && !method.isEmpty()) {
                String of = call.group(1) == null ? owner : call.group(1);
                CALLED.get(method).add(of + "." + call.group(2));
            }
        }
    }

    // Of methods by one name the callings are taken together; the library's own calls are not followed.
    private static int depthOf(String method, List<String> above) {
        if (!CALLED.containsKey(method)) {
            return 0;
        }
        if (DEPTH.containsKey(method)) {
            return DEPTH.get(method);
        }
        CHECK.due("no way back to " + method + " from " + above, above.contains(method), false);
        int deepest = 0;
        if (!above.contains(method)) {
            above.add(method);
            for (String called : CALLED.get(method)) {
                deepest = Math.max(deepest, depthOf(called, above));
            }
            above.remove(method);
        }
        DEPTH.put(method, deepest + 1);
        return deepest + 1;
    }
}

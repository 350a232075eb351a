import java.io.IOException;
import java.nio.file.Files;
import java.nio.file.Path;
import java.util.HashMap;
import java.util.List;
import java.util.Map;
import java.util.Set;
import java.util.TreeSet;
import java.util.regex.Matcher;
import java.util.regex.Pattern;

/** What README.md tells of the calls is so, and each test stands in it. */
public final class ReadmeTest {
    private static final Due due = new Due("ReadmeTest");
    private static final Pattern TEXT = Pattern.compile("String \\w+ = \"(.*)\";");
    private static final Pattern CALL = Pattern.compile("(?:int (\\w+) = )?county\\.(\\w+)\\((.*)\\); +// (-?\\d+|FrameCounty\\.\\w+):.*");
    private static final Map<String, Long> CONSTANTS = Map.of("FrameCounty.NONE", (long) FrameCounty.NONE,
        "FrameCounty.BAD", (long) FrameCounty.BAD, "FrameCounty.STATE", (long) FrameCounty.STATE,
        "FrameCounty.FULL", (long) FrameCounty.FULL, "FrameCounty.NO", FrameCounty.NO);

    private final FrameCounty county = new FrameCounty();
    private final Map<String, Long> named = new HashMap<>();
    private int run;

    public static void main(String[] args) throws IOException {
        List<String> lines = Files.readAllLines(Path.of("README.md"));
        new ReadmeTest().runCalls(lines);
        String all = String.join("\n", lines);
        eachCallIsNamed(all);
        eachTestIsNamed(all);
        due.end();
    }

    private void runCalls(List<String> lines) {
        for (String line : lines) {
            Matcher text = TEXT.matcher(line);
            Matcher call = CALL.matcher(line);
            if (text.matches()) {
                Tape.feed(county, text.group(1));
            } else if (call.matches()) {
                runCall(call.group(1), call.group(2), call.group(3), call.group(4));
            }
        }
        due.is("calls told with their answers", run, 16);
    }

    private void runCall(String name, String called, String numbers, String told) {
        String arguments = numbers;
        for (Map.Entry<String, Long> each : named.entrySet()) {
            arguments = arguments.replaceAll("\\b" + each.getKey() + "\\b", each.getValue().toString());
        }
        String call = called + "(" + arguments + ")";
        long got = Call.of(call).on(county);
        due.is(call, got, CONSTANTS.containsKey(told) ? CONSTANTS.get(told) : Long.parseLong(told));
        if (name != null) {
            named.put(name, got);
        }
        run++;
    }

    private static void eachCallIsNamed(String readme) {
        for (String call : Call.FACE.keySet()) {
            due.holds("README.md names " + call, readme.contains("`" + call + "`"));
        }
    }

    /** Each file of the tests is named, and no test is named that isn't there. */
    private static void eachTestIsNamed(String readme) throws IOException {
        Set<String> there = new TreeSet<>();
        try (var files = Files.list(Path.of("src/test/java"))) {
            files.forEach(file -> there.add(file.getFileName().toString().replace(".java", "")));
        }
        for (String file : there) {
            due.holds("README.md names " + file, readme.contains("`" + file + "`") || readme.contains("`" + file + ".java`"));
        }
        for (Matcher m = Pattern.compile("`(\\w+Test)`").matcher(readme); m.find();) {
            due.holds("there is a test " + m.group(1), there.contains(m.group(1)));
        }
    }
}

import java.io.IOException;
import java.nio.file.Files;
import java.nio.file.Path;
import java.util.List;
import java.util.Set;
import java.util.TreeSet;
import java.util.regex.Matcher;
import java.util.regex.Pattern;

/** The runs that README.md shows: each call there answers what stands behind it. */
public final class ReadmeTest {
    private static final String NEW_OBJECT = "OrderedVolume volume = new OrderedVolume();";
    private static final Pattern CALL = Pattern.compile("volume\\.((\\w+)\\([^()]*\\)); +// (-?\\w+)(: .+)?");
    private static final Set<String> REFUSALS = Set.of("NONE", "EXISTS", "FULL", "BUSY");

    private static final Set<String> shown = new TreeSet<>();
    private static int runs = 0;

    public static void main(String[] args) throws IOException {
        List<String> lines = Files.readAllLines(Path.of("README.md"));
        boolean inRun = false;
        OrderedVolume volume = null;
        for (int n = 0; n < lines.size(); n++) {
            String line = lines.get(n).strip();
            String place = "README.md, line " + (n + 1);
            if (line.startsWith("```")) {
                inRun = line.equals("```java");
                volume = null;
            } else if (inRun && line.equals(NEW_OBJECT)) {
                volume = new OrderedVolume();
                runs++;
            } else if (inRun) {
                call(volume, place, line);
            } else {
                // A call outside the runs would be one whose answer nobody looks at.
                Due.is(place + " has no call outside a run", line.contains("volume."), false);
            }
        }
        Due.is("README.md shows runs", runs > 0, true);
        everyCallIsShown();
        Due.end();
    }

    private static void call(OrderedVolume volume, String place, String line) {
        Matcher call = CALL.matcher(line);
        boolean isRow = volume != null && call.matches();
        Due.is(place + " is a call on an object with its answer: " + line, isRow, true);
        if (isRow) {
            Calls.on(volume, place, call.group(1) + " = " + call.group(3));
            shown.add(call.group(2));
            if (REFUSALS.contains(call.group(3))) {
                shown.add(call.group(3));
            }
        }
    }

    private static void everyCallIsShown() {
        for (var method : OrderedVolume.class.getMethods()) {
            if (method.getDeclaringClass() == OrderedVolume.class) {
                Due.is("README.md shows " + method.getName(), shown.contains(method.getName()), true);
            }
        }
        for (String refusal : REFUSALS) {
            Due.is("README.md shows " + refusal, shown.contains(refusal), true);
        }
    }
}

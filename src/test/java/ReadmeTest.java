import java.io.IOException;
import java.nio.charset.StandardCharsets;
import java.nio.file.Files;
import java.nio.file.Path;
import java.util.Set;
import java.util.TreeSet;
import java.util.regex.Matcher;
import java.util.regex.Pattern;

/** The examples of README.md: each call answers what stands behind it there. */
final class ReadmeTest {
    private static final Path README = Path.of("README.md");
    private static final int LEAST_CALLS = 40;
    private static final Pattern BLOCK = Pattern.compile("(?s)```(\\w+)\n(.*?)```");
    private static final Pattern MADE = Pattern.compile("FewRectangles sheet = new FewRectangles\\(\\);");
    private static final Pattern CALL = Pattern.compile("sheet\\.(\\w+)\\(([-\\d, ]*)\\);\\s*// (-?\\d+)(?:: .*)?");
    private static final Pattern FEED = Pattern.compile("feed\\(sheet, \"([^\"]*)\"\\);");
    private static final String HELPER = "static void feed(FewRectangles sheet, String text) {\n"
            + "    for (int at = 0; at < text.length(); at++) sheet.feed(1, text.charAt(at));\n"
            + "}\n";

    private final Check check = new Check("ReadmeTest");
    private final Set<String> called = new TreeSet<>();
    private FewRectangles sheet;
    private int calls;

    public static void main(String[] args) throws IOException {
        ReadmeTest test = new ReadmeTest();
        test.read(Files.readString(README, StandardCharsets.UTF_8));
        test.check.end();
    }

    private void read(String text) {
        Matcher block = BLOCK.matcher(text);
        while (block.find()) {
            if (block.group(1).equals("java") && !block.group(2).equals(HELPER)) readBlock(block.group(2));
        }
        check.so("README has examples enough", calls >= LEAST_CALLS);
        check.so("README tells the helper that it uses", text.contains(HELPER));
        check.so("README tells how the tests run", text.contains("\n.ci/run\n"));
        check.so("requests, looks, texts, clips, history, image are shown", called.containsAll(Set.of("paint", "insert",
                "remove", "sort", "move", "copy", "rule", "text", "run", "clip", "paste", "undo", "redo", "image", "back")));
    }

    private void readBlock(String block) {
        sheet = null;
        for (String line : block.split("\n")) {
            Matcher call = CALL.matcher(line), feed = FEED.matcher(line);
            if (MADE.matcher(line).matches()) sheet = new FewRectangles();
            else if (sheet == null) check.so("an object is made ahead of: " + line, false);
            else if (call.matches()) ask(line, call.group(1), call.group(2), Integer.parseInt(call.group(3)));
            else if (feed.matches()) feed(feed.group(1));
            else check.so("README has a call and its answer here: " + line, line.isBlank());
        }
    }

    private void ask(String line, String name, String told, int due) {
        String[] parts = told.isBlank() ? new String[0] : told.split(",");
        int[] a = new int[parts.length];
        for (int i = 0; i < a.length; i++) a[i] = Integer.parseInt(parts[i].trim());
        boolean isCall = Face.CALLS.getOrDefault(name, -1) == a.length;
        check.so("a call of the document: " + line, isCall);
        if (!isCall) return;
        check.due(line, Face.call(sheet, name, a), due);
        called.add(name);
        calls++;
    }

    private void feed(String text) {
        for (int at = 0; at < text.length(); at++) sheet.feed(1, text.charAt(at));
    }
}

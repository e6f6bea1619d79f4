import java.io.IOException;
import java.nio.file.Files;
import java.nio.file.Path;
import java.util.regex.Matcher;
import java.util.regex.Pattern;

/** README.md tells of every call of the class, and the answers in its examples are those that are given. */
public final class ReadmeTest {
    private static final Pattern FACE = Pattern.compile("public (?:int|long) \\w+\\([^)]*\\)");
    private static final Pattern EXAMPLE = Pattern.compile("(?s)```java\n(.*?)```");
    private static final Pattern TEXT = Pattern.compile("for \\(char c : \"(.*)\"\\.toCharArray\\(\\)\\) \\{");
    private static final Pattern WRITE = Pattern.compile("ranks\\.write\\((\\d), c\\);");
    private static final Pattern CALL = Pattern.compile("ranks\\.(\\w+\\([^;]*\\)); *// (-?\\d+)(?:[:,].*)?");

    private static int wrong = 0;

    private static void fail(String what) {
        wrong++;
        System.out.println(what);
    }

    public static void main(String[] args) throws IOException {
        String page = Files.readString(Path.of("README.md"));
        everyCallIsThere(page);
        Runs runs = new Runs();
        runs.told("README.md", rowsOf(page));
        if (wrong != 0) {
            System.exit(1);
        }
        runs.end();
    }

    private static void everyCallIsThere(String page) throws IOException {
        Matcher face = FACE.matcher(Files.readString(Path.of("src/main/java/RopeRanks.java")));
        int calls = 0;
        while (face.find()) {
            calls++;
            String call = face.group().substring("public ".length());
            if (!page.contains("\n| `" + call + "` |")) {
                fail("README.md has no row for " + call);
            }
            if (!page.contains("ranks." + call.replaceAll("^\\w+ |\\(.*", "") + "(")) {
                fail("README.md has no example of " + call);
            }
        }
        if (calls != 34) {
            fail(calls + " calls were found in the class");
        }
    }

    /** The lines of all examples, one behind the other, as rows of a run. */
    private static String rowsOf(String page) {
        StringBuilder rows = new StringBuilder();
        Matcher examples = EXAMPLE.matcher(page);
        String text = "";
        while (examples.find()) {
            for (String line : examples.group(1).split("\n")) {
                Matcher isText = TEXT.matcher(line);
                Matcher isWrite = WRITE.matcher(line.strip());
                Matcher isCall = CALL.matcher(line);
                if (isText.matches()) {
                    text = isText.group(1);
                } else if (isWrite.matches()) {
                    rows.append("text ").append(isWrite.group(1)).append(" '").append(text).append("'\n");
                } else if (isCall.matches()) {
                    rows.append(isCall.group(1)).append(" = ").append(isCall.group(2)).append('\n');
                } else if (!line.equals("}") && !line.startsWith("RopeRanks ranks = new RopeRanks();")) {
                    fail("README.md has a line that is no example: " + line);
                }
            }
        }
        if (rows.isEmpty()) {
            fail("README.md has no examples");
        }
        return rows.toString();
    }
}

import java.nio.file.Files;
import java.nio.file.Path;
import java.util.regex.Matcher;
import java.util.regex.Pattern;

/** The example of README.md answers what stands behind it. */
public final class ReadmeTest {
    private static final Pattern SAID = Pattern.compile("for \\(char sign : \"([^\"]+)\".*");
    private static final Pattern ASKED = Pattern.compile("x\\.(\\w+\\([^)]*\\)); +// (-?\\d+).*");

    public static void main(String[] args) throws Exception {
        String text = Files.readString(Path.of("README.md"));
        int from = text.indexOf("```java");
        Tower x = new Tower();
        int asked = 0;
        for (String line : text.substring(from, text.indexOf("\n```", from)).split("\n")) {
            Matcher said = SAID.matcher(line);
            Matcher ask = ASKED.matcher(line);
            if (said.matches()) {
                x.pad(said.group(1));
            } else if (ask.matches()) {
                x.due(ask.group(1), Integer.parseInt(ask.group(2)));
                asked++;
            } else if (line.startsWith("x.")) {
                Boundary.wrong("no answer stands behind " + line);
            }
        }
        Boundary.holds(asked > 20, "only " + asked + " calls were read");
        System.out.println(Boundary.wrongOnes() == 0 ? "README.md is right" : Boundary.wrongOnes() + " answers of README.md are wrong");
        if (Boundary.wrongOnes() != 0) {
            System.exit(1);
        }
    }
}

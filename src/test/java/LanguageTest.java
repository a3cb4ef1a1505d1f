import java.io.IOException;
import java.nio.file.Files;
import java.nio.file.Path;

/** Words that ../shared/LANGUAGE.md leaves out of the program, looked for in its source. */
public final class LanguageTest {

    private static final String[] LEFT_OUT = {
        "import ", "package ", "->", "::", "try ", "catch ", "finally", "synchronized", "assert ", "instanceof",
        "Float.", "Double.", "System.", "Exact(", "HashMap", "Thread", "\" +", "+ \"", "static {", "record ", "var ",
    };

    public static void main(String[] args) throws IOException {
        Checks checks = new Checks();
        int number = 0;
        for (String line : Files.readString(Path.of("src/main/java/RehearsalRoom.java")).split("\n")) {
            number++;
            for (String word : LEFT_OUT) {
                checks.due("line " + number + " has " + word, line.contains(word), false);
            }
            boolean plain = line.chars().allMatch(sign -> sign < 128);
            checks.due("line " + number + " has signs 1 to 127 alone", plain, true);
        }
        checks.end();
    }
}

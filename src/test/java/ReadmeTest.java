import java.io.IOException;
import java.nio.file.Files;
import java.nio.file.Path;
import java.util.List;

/** The run in README.md: its calls answer what stands there behind them. */
public final class ReadmeTest {
    private static final Checks CHECKS = new Checks();
    private static int line;
    private static List<String> lines;

    public static void main(String[] args) throws IOException {
        lines = Files.readAllLines(Path.of("README.md"));
        line = lines.indexOf("RingWeaves mail = new RingWeaves();");
        CHECKS.due("the run stands in README.md", line >= 0, true);
        RingWeaves mail = new RingWeaves();
        told("mail.feed(0x72696e6720613b6cL, 0x696e6b2061206120L, 0x312030206f766572L);",
            mail.feed(0x72696e6720613b6cL, 0x696e6b2061206120L, 0x312030206f766572L));
        told("mail.feed(0x3b00000000000000L, 0, 0);", mail.feed(0x3b00000000000000L, 0, 0));
        told("mail.weave();", mail.weave());
        told("mail.lay(3, 1);", mail.lay(3, 1));
        told("mail.over(0, 1);", mail.over(0, 1));
        told("mail.look(1, 4);", mail.look(1, 4));
        told("mail.fewest();", mail.fewest());
        told("mail.order(0);", mail.order(0));
        told("mail.sizes(100, 190, 8);", mail.sizes(100, 190, 8));
        told("mail.count(4);", mail.count(4));
        told("mail.count(7);", mail.count(7));
        told("mail.take(1);", mail.take(1));
        told("mail.count(2);", mail.count(2));
        told("mail.mend();", mail.mend());
        line++;
        CHECKS.due("the run ends there", lines.get(line).equals("```"), true);
        CHECKS.finish();
    }

    private static void told(String call, Object answer) {
        line++;
        String stands = line < lines.size() ? lines.get(line) : "";
        String due = call + " // " + answer;
        CHECKS.due("README.md: '" + stands + "' is '" + due + "'",
            stands.equals(due) || stands.startsWith(due + ":"), true);
    }
}

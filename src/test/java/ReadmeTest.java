import java.io.IOException;
import java.nio.file.Files;
import java.nio.file.Path;
import java.util.regex.Matcher;
import java.util.regex.Pattern;

/** The calls that README.md shows, each with its answer; every call is shown taken and refused. */
public final class ReadmeTest {
    private static final Pattern SHOWN =
        Pattern.compile("half\\.(\\w+)\\((-?\\d+)(?:, (-?\\d+))?\\); *// (-?\\d+)");

    private ReadmeTest() {
    }

    private static int numberOf(String name) {
        int which = 0;
        while (!Calls.name(which).equals(name)) {
            which++;
        }
        return which;
    }

    public static void main(String[] args) throws IOException {
        boolean[] taken = new boolean[Calls.COUNT];
        boolean[] refused = new boolean[Calls.COUNT];
        HalfFloat half = new HalfFloat();
        Matcher shown = SHOWN.matcher(Files.readString(Path.of("README.md")));
        while (shown.find()) {
            int which = numberOf(shown.group(1));
            int a = Integer.parseInt(shown.group(2));
            int b = shown.group(3) == null ? 0 : Integer.parseInt(shown.group(3));
            int want = Integer.parseInt(shown.group(4));
            Check.due(Calls.answer(half, which, a, b), want, shown.group());
            taken[which] |= want != Calls.refusal(which);
            refused[which] |= want == Calls.refusal(which);
        }
        for (int which = 0; which < Calls.COUNT; which++) {
            Check.holds(taken[which], "README.md shows " + Calls.name(which) + " taken");
            Check.holds(refused[which], "README.md shows " + Calls.name(which) + " refused");
        }
        Check.finish();
    }
}

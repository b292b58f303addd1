import java.io.IOException;
import java.lang.reflect.Method;
import java.nio.file.Files;
import java.nio.file.Path;
import java.util.function.IntSupplier;

/** The examples of README.md answer what is written there. */
public final class ReadmeTest {
    private static String page = "";

    private ReadmeTest() {
    }

    public static void main(String[] args) throws IOException {
        page = Files.readString(Path.of("README.md"));
        firstExample();
        groupExample();
        everyCallIsNamed();
        whatIsThrown();
        Checks.end();
    }

    private static void firstExample() {
        Paths paths = new Paths();
        example("paths.text(3539889918515884365L);", "\"M1 1 7 1\"", () -> paths.text(3539889918515884365L), 8);
        Checks.due("its characters", 3539889918515884365L, Checks.packed("M1 1 7 1"));
        example("paths.text(3975606774473439008L);", "\" 7 7L1,7\"", () -> paths.text(3975606774473439008L), 16);
        Checks.due("its characters", 3975606774473439008L, Checks.packed(" 7 7L1,7"));
        example("paths.text('z');", "", () -> paths.text('z'), 17);
        example("int commands = paths.read();", "5;", paths::read, 5);
        example("int kind = paths.command(1);", "1, a LINE", () -> paths.command(1), 1);
        example("int x = paths.number(1, 0);", "1792,", () -> paths.number(1, 0), 1792);
        example("int length = paths.write();", "17; charAt(0) .. charAt(16) are \"M1 1L7 1L7 7L1 7Z\"", paths::write, 17);
        Checks.due("what is written", Checks.written(paths), "M1 1L7 1L7 7L1 7Z");
        example("int points = paths.render(8, 8, 0);", "9216 points", () -> paths.render(8, 8, 0), 9216);
        example("int inOne = paths.covered(1, 1);", "256", () -> paths.covered(1, 1), 256);
    }

    /** A line of the page has the call and, behind it, what is said of it. */
    private static void example(String call, String said, IntSupplier answer, int want) {
        boolean stands = page.lines().anyMatch(line -> line.startsWith(call) && line.contains(said));
        Checks.due("README.md has " + call + " // " + said, stands, true);
        Checks.answers(call, answer, want);
    }

    private static void groupExample() {
        String text = "M1 1h2v2z (0 1 -1 0 4 0 M0 0 q1 2 2 0 t2 0)";
        Checks.due("README.md has " + text, page.lines().anyMatch(text::equals), true);
        Checks.draws(text, "M256,256 L768,256 L768,768 Z M1024,0"
            + " C683,171,683,341,1024,512 C1365,683,1365,853,1024,1024");
    }

    private static void everyCallIsNamed() {
        for (Method method : PathTexts.class.getMethods()) {
            if (method.getDeclaringClass() == PathTexts.class) {
                Checks.due("README.md tells of " + method.getName(), page.contains("`" + method.getName() + "("), true);
            }
        }
    }

    private static void whatIsThrown() {
        Paths paths = new Paths();
        Checks.throwsA("a command that is not there", () -> paths.command(0), IndexOutOfBoundsException.class);
        Checks.throwsA("a size that may not be", () -> paths.render(9, 1, 0), IllegalArgumentException.class);
        Checks.throwsA("a line before any move", () -> paths.line(1, 1), IllegalStateException.class);
        Checks.throwsA("a cubic before any move", () -> paths.cubic(1, 1, 1, 1, 1, 1), IllegalStateException.class);
        Checks.throwsA("a close before any move", paths::close, IllegalStateException.class);
        for (int i = 0; i < 150; i++) {
            paths.move(i, i);
        }
        Checks.throwsA("one command too many", () -> paths.move(1, 1), UnsupportedOperationException.class);
        Checks.answers("a wrong text throws nothing", () -> Checks.readText(paths, "M1"), -3);
    }
}

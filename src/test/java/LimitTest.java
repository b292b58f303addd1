import java.lang.management.ManagementFactory;
import java.util.List;

/** The most of everything that may be, and that calls make little anew. */
public final class LimitTest {
    private static final int CALLS_OF_ONE_TURN = 19;

    private LimitTest() {
    }

    public static void main(String[] args) {
        longestWriting();
        longestTexts();
        farthestPoints();
        mostEdges();
        callsMakeLittle();
        Checks.end();
    }

    private static void longestWriting() {
        Paths paths = new Paths();
        int far = -1048575;
        paths.move(far, far);
        for (int i = 1; i < 150; i++) {
            paths.cubic(far, far, far, far, far, far);
        }
        String pair = "-4095.996-4095.996";
        String want = "M" + pair + ("C" + pair.repeat(3)).repeat(149);
        Checks.answers("the longest writing", paths::write, want.length());
        Checks.due("is whole", Checks.written(paths), want);
    }

    /** Before the matrix, points and what is turned over them go far beyond what may be drawn. */
    private static void farthestPoints() {
        String[] matrices = {"(0 0 0 0 0 0", "(4096 4096-4096-4096 0 0", "(4096-4096-4096 4096 0 0", "(.004 0 0 .004 0 0"};
        for (String matrix : matrices) {
            for (String letter : new String[] {"t", "T", "l", "h", "v", "q0 0 ", "s0 0 ", "c0 0 0 0 "}) {
                for (String step : new String[] {"4096 4096 ", "-4096-4096 ", "-4096-4096 4096 4096 "}) {
                    String set = letter.length() == 1 ? step : letter.substring(1) + step;
                    String sets = letter.charAt(0) + set.repeat(1100 / set.length());
                    sameAsModel(matrix + "M4096 4096" + sets + ")");
                    sameAsModel(matrix + "M-4096-4096" + sets + "z)");
                }
            }
        }
    }

    private static void sameAsModel(String text) {
        Paths paths = new Paths();
        int want;
        String drawing;
        try {
            List<Model.Command> read = Model.read(text);
            want = read.size();
            drawing = Model.told(read);
        } catch (Model.Wrong wrong) {
            want = PathTexts.NONE - wrong.place;
            drawing = "";
        }
        Checks.due("reading " + text, Checks.readText(paths, text), want);
        Checks.due("drawing of " + text, Checks.commands(paths), drawing);
    }

    private static void longestTexts() {
        String[] starts = {"M", "M1", "M1 1L", "(", "M.", "M-", "(1 0 0 1 0 0", "M1 1z", ""};
        for (String start : starts) {
            for (String filling : new String[] {" ", ",", "1", "1 ", ".", "-", "+1", "(", ")", "z", "m", "9.", ".9"}) {
                String text = start + filling.repeat(1200);
                sameAsModel(text.substring(0, 1200));
            }
        }
    }

    private static void mostEdges() {
        Paths paths = new Paths();
        paths.move(0, 0);
        for (int i = 1; i < 150; i++) {
            paths.cubic(1048576, -1048576, -1048576, 1048576, i, i % 2 == 0 ? 2048 : 0);
        }
        Checks.due("edges", paths.told(3), 149 * 16 + 1);
        int all = paths.render(8, 8, 1);
        int sum = 0;
        for (int i = 0; i < 64; i++) {
            sum += paths.covered(i % 8, i / 8);
        }
        Checks.due("all points are the squares' points", sum, all);
    }

    /** One room holds all that a run makes: an object and its 512 calls take a small part of it. */
    private static void callsMakeLittle() {
        com.sun.management.ThreadMXBean threads =
            (com.sun.management.ThreadMXBean) ManagementFactory.getThreadMXBean();
        long thread = Thread.currentThread().getId();
        long made = 0;
        for (int round = 0; round < 3; round++) {
            long before = threads.getThreadAllocatedBytes(thread);
            PathTexts paths = new PathTexts();
            for (int i = 0; i < Paths.MOST_CALLS / CALLS_OF_ONE_TURN; i++) {
                oneTurn(paths);
            }
            made = threads.getThreadAllocatedBytes(thread) - before;
        }
        Checks.due("the bytes of one object's calls are few: " + made, made < 1 << 20, true);
    }

    private static void oneTurn(PathTexts paths) {
        paths.text(3539889918515884365L);
        paths.text(3975606774473439008L);
        paths.text('z');
        paths.read();
        paths.text('(');
        paths.read();
        paths.line(300, -77);
        paths.cubic(1, 2, 3, 4, 5, 6);
        paths.close();
        paths.move(7, 7);
        paths.write();
        paths.charAt(0);
        paths.render(8, 8, 0);
        paths.covered(0, 0);
        paths.command(1);
        paths.number(1, 1);
        paths.bound(0);
        paths.told(3);
        paths.clear();
    }
}

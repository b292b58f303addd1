import java.nio.charset.StandardCharsets;
import java.util.function.IntSupplier;

/** What the tests share: they say what is not as due, and end with exit code 1 then. */
final class Checks {
    private static final int PRINTED_AT_MOST = 20;
    private static int done = 0;
    private static int wrong = 0;
    private static int printed = 0;
    private static String about = "";

    private Checks() {
    }

    /** What the answers that follow are about. */
    static void about(String name) {
        about = name;
        printed = 0;
    }

    static int done() {
        return done;
    }

    static void due(String what, Object got, Object want) {
        done++;
        if (!want.equals(got)) {
            wrong++;
            printed++;
            if (printed <= PRINTED_AT_MOST) {
                System.out.println(about + what + " answered " + got + ", due is " + want);
            }
        }
    }

    /** What a call answers, or the plain name of what it throws. */
    static String answer(IntSupplier call) {
        try {
            return Integer.toString(call.getAsInt());
        } catch (RuntimeException thrown) {
            return thrown.getClass().getSimpleName();
        }
    }

    static void answers(String what, IntSupplier call, int want) {
        due(what, answer(call), Integer.toString(want));
    }

    static void throwsA(String what, IntSupplier call, Class<? extends RuntimeException> want) {
        due(what, answer(call), want.getSimpleName());
    }

    /** Up to eight characters as text() takes them. */
    static long packed(String characters) {
        byte[] bytes = characters.getBytes(StandardCharsets.ISO_8859_1);
        long all = 0;
        for (int i = bytes.length - 1; i >= 0; i--) {
            all = all << 8 | bytes[i] & 255;
        }
        return all;
    }

    static void feed(Paths paths, String text) {
        for (int i = 0; i < text.length(); i += 8) {
            paths.text(packed(text.substring(i, Math.min(text.length(), i + 8))));
        }
    }

    static int readText(Paths paths, String text) {
        feed(paths, text);
        return paths.read();
    }

    static Paths drawn(String text) {
        Paths paths = new Paths();
        int commands = readText(paths, text);
        if (commands < 0) {
            due("reading " + text, commands, "no less than 0");
        }
        return paths;
    }

    /** All commands that are drawn, as the face tells them. */
    static String commands(Paths paths) {
        StringBuilder all = new StringBuilder();
        int count = paths.told(0);
        for (int k = 0; k < count; k++) {
            int kind = paths.command(k);
            all.append(all.length() == 0 ? "" : " ").append("MLCZ".charAt(kind));
            int numbers = kind == 2 ? 6 : kind == 3 ? 0 : 2;
            for (int i = 0; i < numbers; i++) {
                all.append(i == 0 ? "" : ",").append(paths.number(k, i));
            }
        }
        return all.toString();
    }

    /** A text is read into commands. */
    static void draws(String text, String want) {
        Paths paths = new Paths();
        int answer = readText(paths, text);
        due(text, commands(paths), want);
        due("how many of " + text, answer, want.isEmpty() ? 0 : want.split(" ").length);
    }

    /** A text is seen to be wrong at a place. */
    static void wrong(String text, int place) {
        Paths paths = drawn("M7 7");
        due(text, readText(paths, text), PathTexts.NONE - place);
        due("the drawing behind " + text, commands(paths), "M1792,1792");
    }

    static String written(Paths paths) {
        StringBuilder all = new StringBuilder();
        int length = paths.told(2);
        for (int i = 0; i < length; i++) {
            all.append((char) paths.charAt(i));
        }
        return all.toString();
    }

    /** Everything that the face tells of an object's state. */
    static String state(Paths paths) {
        StringBuilder all = new StringBuilder();
        all.append(commands(paths)).append('|').append(written(paths));
        for (int what = 0; what < 4; what++) {
            all.append('|').append(paths.told(what)).append('|').append(paths.bound(what));
        }
        for (int y = 0; y < 8; y++) {
            for (int x = 0; x < 8; x++) {
                int column = x;
                int row = y;
                String covered = answer(() -> paths.covered(column, row));
                all.append(covered.startsWith("IndexOut") ? "" : "|" + x + "," + y + ":" + covered);
            }
        }
        return all.toString();
    }

    static void end() {
        System.out.println(done + " answers looked at, " + wrong + " not as due");
        if (wrong != 0 || done == 0) {
            System.exit(1);
        }
    }
}

/** Each promise of the document by answers that were written out by hand. */
public final class PromiseTest {
    private static final Class<IllegalArgumentException> ARGUMENT = IllegalArgumentException.class;
    private static final Class<IllegalStateException> STATE = IllegalStateException.class;
    private static final Class<UnsupportedOperationException> TOO_MANY = UnsupportedOperationException.class;
    private static final Class<IndexOutOfBoundsException> INDEX = IndexOutOfBoundsException.class;
    private static final int[] STRANGE = {-1, 4, 5, 256, Integer.MIN_VALUE, Integer.MAX_VALUE};

    private PromiseTest() {
    }

    public static void main(String[] args) {
        promise1NewObject();
        promise2Text();
        promise3ReadLines();
        promise3ReadCurves();
        promise3ReadNumerals();
        promise3ReadFractions();
        promise3ReadGroups();
        promise3ReadWrong();
        promise3ReadTooGreat();
        promise3ReadKeepsOrReplaces();
        promise4Move();
        promise5Line();
        promise6Cubic();
        promise7Close();
        promise8Command();
        promise9Number();
        promise10WriteNumerals();
        promise10WriteBlanks();
        promise11CharAt();
        promise12Render();
        promise12RenderEdges();
        promise12RenderCurves();
        promise13Covered();
        promise14Bound();
        promise15Told();
        promise15ToldEdges();
        promise16Clear();
        Checks.end();
    }

    private static void promise1NewObject() {
        Paths paths = new Paths();
        for (int what = 0; what < 4; what++) {
            Checks.due("1: told " + what, paths.told(what), 0);
            Checks.due("1: bound " + what, paths.bound(what), 0);
        }
        Checks.throwsA("1: command", () -> paths.command(0), INDEX);
        Checks.throwsA("1: number", () -> paths.number(0, 0), INDEX);
        Checks.throwsA("1: charAt", () -> paths.charAt(0), INDEX);
        Checks.throwsA("1: covered", () -> paths.covered(0, 0), INDEX);
        Checks.answers("1: write", paths::write, 0);
        Checks.answers("1: read", paths::read, 0);
        Paths other = Checks.drawn("M1 1");
        Checks.due("1: objects are apart", paths.told(0) + other.told(0), 1);
    }

    private static void promise2Text() {
        Paths paths = new Paths();
        Checks.answers("2: nothing", () -> paths.text(0), 0);
        Checks.answers("2: one", () -> paths.text('M'), 1);
        Checks.answers("2: zeros between", () -> paths.text(0x3100200000003200L), 4);
        Checks.answers("2: the lowest first", paths::read, 1);
        Checks.due("2: numbers in the order of bytes", Checks.commands(paths), "M512,256");
        Checks.answers("2: 32 and 126", () -> paths.text(0x7e20L), 2);
        for (long bad : new long[] {1, 31, 127, 128, 255, 0x1f20L, 0x7f00000000000000L, -1L, 0x8000000000000000L}) {
            Checks.throwsA("2: " + bad, () -> paths.text(bad), ARGUMENT);
            Checks.due("2: nothing came by " + bad, paths.told(1), 2);
        }
        Checks.feed(paths, " ".repeat(1196));
        Checks.throwsA("2: 1201", () -> paths.text(0x202020L), TOO_MANY);
        Checks.throwsA("2: a wrong one goes before too many", () -> paths.text(0x01202020L), ARGUMENT);
        Checks.due("2: nothing changed", paths.told(1), 1198);
        Checks.answers("2: 1200", () -> paths.text(0x2020L), 1200);
        Checks.answers("2: none more", () -> paths.text(0), 1200);
        Checks.throwsA("2: one more", () -> paths.text(0x20L), TOO_MANY);
    }

    private static void draws(String promise, String text, String want) {
        Checks.about(promise);
        Checks.draws(text, want);
        Checks.about("");
    }

    private static void promise3ReadLines() {
        draws("3: ", "", "");
        draws("3: ", " ,, ", "");
        draws("3: ", ",M,1,,2 , ", "M256,512");
        draws("3: ", "M1 2 3 4 5 6", "M256,512 L768,1024 L1280,1536");
        draws("3: ", "m1 2 3 4 5 6", "M256,512 L1024,1536 L2304,3072");
        draws("3: ", "M1 2L3 4 5 6l1 1 1 1", "M256,512 L768,1024 L1280,1536 L1536,1792 L1792,2048");
        draws("3: ", "M1 2H3 4h1-1V5 6v1-1",
            "M256,512 L768,512 L1024,512 L1280,512 L1024,512 L1024,1280 L1024,1536 L1024,1792 L1024,1536");
        draws("3: ", "M1 2L5 5z", "M256,512 L1280,1280 Z");
        draws("3: behind Z the start is at hand: ", "M1 2L5 5Zl1 0h1zm1 1l1 1",
            "M256,512 L1280,1280 Z L512,512 L768,512 Z M512,768 L768,1024");
        draws("3: m from the point at hand: ", "M1 1l1 1m1 1l1 1", "M256,256 L512,512 M768,768 L1024,1024");
        draws("3: ", "M1 1zzZ", "M256,256 Z Z Z");
        draws("3: M M ", "M1 1M2 2m1 1", "M256,256 M512,512 M768,768");
        draws("3: Z goes to the last start: ", "M1 1l1 1m1 0l5 5zh1", "M256,256 L512,512 M768,512 L2048,1792 Z L1024,512");
    }

    private static void promise3ReadCurves() {
        draws("3: ", "M1 1C1 2 3 4 5 6", "M256,256 C256,512,768,1024,1280,1536");
        draws("3: ", "M1 1c1 2 3 4 5 6", "M256,256 C512,768,1024,1280,1536,1792");
        draws("3: c again counts from its new point: ", "M0 0c0 0 0 0 1 1 0 0 0 0 1 1",
            "M0,0 C0,0,0,0,256,256 C256,256,256,256,512,512");
        draws("3: S behind C: ", "M0 0C0 0 1 2 4 4S5 5 6 6", "M0,0 C0,0,256,512,1024,1024 C1792,1536,1280,1280,1536,1536");
        draws("3: s behind c: ", "M1 0c0 0 1 2 4 4s5 5 6 6", "M256,0 C256,0,512,512,1280,1024 C2048,1536,2560,2304,2816,2560");
        draws("3: S behind S: ", "M0 0S1 1 2 0 3 3 4 0", "M0,0 C0,0,256,256,512,0 C768,-256,768,768,1024,0");
        draws("3: S behind L: ", "M0 0C0 0 1 1 2 2L3 3S4 4 5 5",
            "M0,0 C0,0,256,256,512,512 L768,768 C768,768,1024,1024,1280,1280");
        draws("3: S behind Z: ", "M0 0C0 0 1 1 2 2ZS4 4 5 5", "M0,0 C0,0,256,256,512,512 Z C0,0,1024,1024,1280,1280");
        draws("3: S behind Q: ", "M0 0Q3 3 6 0S4 4 5 5", "M0,0 C512,512,1024,512,1536,0 C1536,0,1024,1024,1280,1280");
        draws("3: T behind C: ", "M0 0C1 1 2 2 3 3T6 6", "M0,0 C256,256,512,512,768,768 C768,768,1024,1024,1536,1536");
        draws("3: T behind Q, T: ", "M0 0Q3 3 6 0T12 0 18 0",
            "M0,0 C512,512,1024,512,1536,0 C2048,-512,2560,-512,3072,0 C3584,512,4096,512,4608,0");
        draws("3: t behind q, t: ", "M1 0q3 3 6 0t6 0 6 0",
            "M256,0 C768,512,1280,512,1792,0 C2304,-512,2816,-512,3328,0 C3840,512,4352,512,4864,0");
        draws("3: T behind M, then T: ", "M3 0T6 0 9 0", "M768,0 C768,0,1024,0,1536,0 C2048,0,2304,0,2304,0");
        draws("3: thirds to the nearest: ", "M0 0Q.004 .008.012-.004", "M0,0 C1,1,2,1,3,-1");
        draws("3: S behind a bracket's M: ", "M0 0C0 0 1 1 2 2(1 0 0 1 0 0M0 0S1 1 2 2)",
            "M0,0 C0,0,256,256,512,512 M0,0 C0,0,256,256,512,512");
        draws("3: s behind M: ", "M1 1s1 0 2 0", "M256,256 C256,256,512,256,768,256");
    }

    private static void promise3ReadNumerals() {
        draws("3: ", "M1-2", "M256,-512");
        draws("3: ", "M1+2", "M256,512");
        draws("3: ", "M1.5.5", "M384,128");
        draws("3: ", "M1..5", "M256,128");
        draws("3: ", "M-1.+.5", "M-256,128");
        draws("3: ", "M-0+0", "M0,0");
        draws("3: ", "M001.50-.25", "M384,-64");
        draws("3: halves go up: ", "M.001953125-.001953125", "M1,0");
        draws("3: halves go up: ", "M.005859375-.005859375", "M2,-1");
        draws("3: just below: ", "M.00195312-.00195312", "M0,0");
        draws("3: just beyond: ", "M.00195313-.00195313", "M1,-1");
        draws("3: nine digits: ", "M000000001 1.00000000", "M256,256");
        draws("3: nine digits: ", "M.000000001-.999999999", "M0,-256");
        draws("3: the greatest: ", "M4096-4096", "M1048576,-1048576");
        draws("3: what counts for the greatest: ", "M4096.0019-4096.0019", "M1048576,-1048576");
        wrong("M0000000001 1", 1);
        wrong("M1.000000000 1", 1);
        wrong("M1 0.000000000", 3);
        wrong("M4096.002 1", 1);
        wrong("M1-4096.002", 2);
        wrong("M99999999999999999999999999 1", 1);
    }

    private static void promise3ReadFractions() {
        // (2 n + 1) / 512, cut behind a digit and one more there: just below, and not below, a half.
        String[][] below = {
            {".001", "0"}, {".0019", "0"}, {".00195", "0"}, {".001953", "0"}, {".0019531", "0"}, {".00195312", "0"},
            {"9.998", "2559"}, {"9.9980", "2559"}, {"9.99804", "2559"}, {"9.998046", "2559"}, {"9.9980468", "2559"},
            {"9.99804687", "2559"}, {"99.998046", "25599"}, {"99.9980468", "25599"}, {"999.99804", "255999"},
            {"999.998046", "255999"}};
        String[][] beyond = {
            {".002", "1"}, {".0020", "1"}, {".00196", "1"}, {".001954", "1"}, {".0019532", "1"}, {".00195313", "1"},
            {"9.999", "2560"}, {"9.9981", "2560"}, {"9.99805", "2560"}, {"9.998047", "2560"}, {"9.9980469", "2560"},
            {"9.99804688", "2560"}, {"99.998047", "25600"}, {"99.9980469", "25600"}, {"999.99805", "256000"},
            {"999.998047", "256000"}};
        for (String[][] table : new String[][][] {below, beyond}) {
            for (String[] row : table) {
                draws("3: ", "M0+" + row[0], "M0," + row[1]);
                draws("3: ", "M0-" + row[0], "M0," + (row[1].equals("0") ? "0" : "-" + row[1]));
            }
        }
    }

    private static void promise3ReadGroups() {
        draws("3: ", "(1 0 0 1 0 0)", "");
        draws("3: ", "(1 0 0 1 2 3M1 1)", "M768,1024");
        draws("3: ", "(0 1-1 0 0 0M1 2h1)", "M-512,256 L-512,512");
        draws("3: a to f each: ", "(2 3 5 7 11 13M1 0L0 1L0 0)", "M3328,4096 L4096,5120 L2816,3328");
        draws("3: a group in a group: ", "(2 3 5 7 11 13(1 2 3 4 5 6M1 0L0 1L0 0))",
            "M16128,22272 L19712,27392 L13056,17920");
        draws("3: behind it the matrix round it: ", "(2 0 0 2 0 0(3 0 0 3 0 0M1 1)M1 1)M1 1", "M1536,1536 M512,512 M256,256");
        draws("3: m behind brackets from 0, 0: ", "m1 1l5 5(1 0 0 1 0 0m1 1l1 1)m2 2",
            "M256,256 L1536,1536 M256,256 L512,512 M512,512");
        draws("3: brackets behind brackets: ", "(1 0 0 1 0 0(1 0 0 1 0 0)(1 0 0 1 0 0))", "");
        draws("3: halves of points go up: ", "(.5 0 0 .5 0 0M.00390625-.00390625L.01171875-.01171875)", "M1,0 L2,-1");
        draws("3: halves of matrices go up: ", "(.5 0 0 .5 0 0(.00390625 0 0 -.00390625 0 0M100 100))", "M100,0");
        draws("3: one division of a sum: ", "(.5 0 .5 0 0 0M.00390625.00390625)", "M1,0");
        draws("3: eight deep: ", "(1 0 0 1 1 0".repeat(8) + "M0 0" + ")".repeat(8), "M2048,0");
        draws("3: far away before the matrix: ", "(.01 0 0 .01 0 0M4096 0h4096 4096)", "M12288,0 L24576,0 L36864,0");
    }

    private static void wrong(String text, int place) {
        Checks.about("3: ");
        Checks.wrong(text, place);
        Checks.about("");
    }

    private static void promise3ReadWrong() {
        for (char letter : "LlHhVvCcSsQqTtZz".toCharArray()) {
            wrong(letter + "1 1 1 1 1 1", 0);
            wrong(" (1 0 0 1 0 0" + letter + "1 1 1 1 1 1)", 13);
            wrong("(1 0 0 1 0 0M1 1)" + letter + "1 1 1 1 1 1", 17);
        }
        for (char other : "ABDEFGIJKNOPRUWXYabdefgijknopruwxy!\"#$%&'*/:;<=>?@[\\]^_`{|}~".toCharArray()) {
            wrong("" + other, 0);
            wrong("M1 " + other, 3);
            wrong("M1 1" + other, 4);
        }
        wrong("1", 0);
        wrong(" -1", 1);
        wrong("M", 1);
        wrong("M ,", 3);
        wrong("M1 1L", 5);
        wrong("M1 1LL", 5);
        wrong("M1 1L1z", 6);
        wrong("M1 1H", 5);
        wrong("M1 1C1 1 1 1 1", 14);
        wrong("M1 1C1 1 1 1 1 1 1 ", 19);
        wrong("M1 1S1 1 1z", 10);
        wrong("M1 1z 1", 6);
        wrong("M1 1z.5", 5);
        wrong("M+ 1", 1);
        wrong("M1-.", 2);
        wrong("M1 1.e", 5);
        wrong("M1 1 .", 5);
        wrong("M1 1+-1 1", 4);
        wrong(")", 0);
        wrong("M1 1 )", 5);
        wrong("(1 0 0 1 0 0M1 1))", 17);
        wrong("(1 0 0 1 0 0M1 1", 16);
        wrong("(1 0 0 1 0 0M1 1 ,", 18);
        wrong("(", 1);
        wrong("(1 0 0 1 0)", 10);
        wrong("(1 0 0 1 0M", 10);
        wrong("((1 0 0 1 0 0)", 1);
        wrong("(1 0 0 1 0 0 1 M1 1)", 13);
        wrong("(1 0 0 1 0 0) 1", 14);
        wrong("M1(1 0 0 1 0 0)", 2);
        wrong("M1 1L)", 5);
        String open = "(1 0 0 1 0 0";
        wrong(open.repeat(9) + ")".repeat(9), 8 * open.length());
    }

    private static void promise3ReadTooGreat() {
        wrong("M4096 0h.004", 7);
        wrong("M0-4096v-.004", 7);
        wrong("M4096 0l-1 0 1 0 1 0", 7);
        wrong("M4096 0 m1 0", 8);
        wrong("m4096 0 0 0 1 0", 0);
        wrong("M0 0C1 1 4000 1 4096 1S1 1 1 1", 22);
        wrong("M0 0Q-4096 0 4096 0T0 0", 19);
        wrong("M4096 0c1 0-1 0-1 0", 7);
        wrong("(2 0 0 2 0 0M2048 1 2049 1)", 12);
        wrong("(1 0 0 1 .004 0M4096 0)", 15);
        wrong(" (2 0 0 2 0 0(2049 0 0 1 0 0M0 0))", 13);
        wrong("(1 0 0 1 4096 0(1 0 0 1 1 0)", 15);
        for (int i = 0; i < 6; i++) {
            String inner = "0 ".repeat(i) + "2049 " + "0 ".repeat(5 - i);
            wrong("(2 0 0 2 0 0(" + inner + "M0 0))", 12);
            wrong("(-2 0 0-2 0 0(" + inner + "M0 0))", 13);
        }
        wrong("(2 0 0 2 0 0M4096 0x", 12);
        wrong("(2 0 0 2 0 0M4096 x", 18);
        draws("3: too great before the matrix alone: ", "(.5 0 0 .5 0 0M4096 0h4096)", "M524288,0 L1048576,0");
        wrong("M0 0" + "z".repeat(150), 153);
        wrong("M0 0h" + "1 ".repeat(150), 4);
        wrong("M" + "1 1 ".repeat(151), 0);
        wrong("M" + "1 1 ".repeat(150) + "z", 601);
        wrong("M" + "1 1 ".repeat(150) + "z1", 601);
        draws("3: 150 commands: ", "M0 0" + "z".repeat(149), "M0,0" + " Z".repeat(149));
    }

    private static void promise3ReadKeepsOrReplaces() {
        Paths paths = Checks.drawn("M1 1L2 2");
        paths.write();
        paths.render(1, 1, 0);
        Checks.answers("3: a new drawing", () -> Checks.readText(paths, "M3 3"), 1);
        Checks.due("3: in place of the old", Checks.commands(paths), "M768,768");
        Checks.due("3: what was written stays", Checks.written(paths), "M1 1L2 2");
        Checks.answers("3: what was covered stays", () -> paths.covered(0, 0), 0);
        Checks.answers("3: wrong", () -> Checks.readText(paths, "M3 3L4 4L"), -10);
        Checks.answers("3: and again right", () -> Checks.readText(paths, "M4 4L5 5"), 2);
        paths.line(1, 2);
        Checks.due("3: lines come behind it", Checks.commands(paths), "M1024,1024 L1280,1280 L1,2");
        Checks.answers("3: an empty text", paths::read, 0);
        Checks.due("3: is an empty drawing", paths.told(0), 0);
        Checks.throwsA("3: without a MOVE", () -> paths.line(1, 2), STATE);
    }

    private static void promise4Move() {
        Paths paths = new Paths();
        Checks.answers("4: move", () -> paths.move(1048576, -1048576), 1);
        Checks.answers("4: move", () -> paths.move(-1048576, 1048576), 2);
        Checks.due("4: both", Checks.commands(paths), "M1048576,-1048576 M-1048576,1048576");
        for (int bad : new int[] {1048577, -1048577, Integer.MAX_VALUE, Integer.MIN_VALUE}) {
            Checks.throwsA("4: x " + bad, () -> paths.move(bad, 0), ARGUMENT);
            Checks.throwsA("4: y " + bad, () -> paths.move(0, bad), ARGUMENT);
        }
        Checks.due("4: nothing came", Checks.commands(paths), "M1048576,-1048576 M-1048576,1048576");
        for (int i = 3; i <= 150; i++) {
            int k = i;
            Checks.answers("4: many", () -> paths.move(k, k), k);
        }
        Checks.throwsA("4: 151", () -> paths.move(0, 0), TOO_MANY);
        Checks.throwsA("4: the number goes before", () -> paths.move(1048577, 0), ARGUMENT);
        Checks.due("4: still 150", paths.told(0), 150);
    }

    private static void promise5Line() {
        Paths paths = new Paths();
        Checks.throwsA("5: no MOVE", () -> paths.line(1, 1), STATE);
        Checks.throwsA("5: the number goes before the state", () -> paths.line(1, 1048577), ARGUMENT);
        Checks.throwsA("5: the number goes before the state", () -> paths.line(-1048577, 1), ARGUMENT);
        Checks.due("5: nothing came", paths.told(0), 0);
        paths.move(5, 6);
        Checks.answers("5: line", () -> paths.line(-7, 8), 2);
        Checks.answers("5: line", () -> paths.line(1048576, -1048576), 3);
        Checks.due("5: both", Checks.commands(paths), "M5,6 L-7,8 L1048576,-1048576");
        Checks.throwsA("5: x", () -> paths.line(Integer.MIN_VALUE, 1), ARGUMENT);
        for (int i = 4; i <= 150; i++) {
            paths.line(i, i);
        }
        Checks.throwsA("5: 151", () -> paths.line(0, 0), TOO_MANY);
        Checks.throwsA("5: the number goes before too many", () -> paths.line(0, 1048577), ARGUMENT);
    }

    private static void promise6Cubic() {
        Paths paths = new Paths();
        Checks.throwsA("6: no MOVE", () -> paths.cubic(1, 2, 3, 4, 5, 6), STATE);
        for (int i = 0; i < 6; i++) {
            int[] n = new int[6];
            n[i] = i % 2 == 0 ? 1048577 : -1048577;
            Checks.throwsA("6: number " + i, () -> paths.cubic(n[0], n[1], n[2], n[3], n[4], n[5]), ARGUMENT);
        }
        paths.move(0, 0);
        Checks.answers("6: cubic", () -> paths.cubic(1, -2, 3, -4, 1048576, -1048576), 2);
        Checks.due("6: drawn", Checks.commands(paths), "M0,0 C1,-2,3,-4,1048576,-1048576");
        for (int i = 3; i <= 150; i++) {
            paths.cubic(i, i, i, i, i, i);
        }
        Checks.throwsA("6: 151", () -> paths.cubic(0, 0, 0, 0, 0, 0), TOO_MANY);
    }

    private static void promise7Close() {
        Paths paths = new Paths();
        Checks.throwsA("7: no MOVE", paths::close, STATE);
        paths.move(0, 0);
        Checks.answers("7: close", paths::close, 2);
        Checks.answers("7: and again", paths::close, 3);
        Checks.answers("7: a line behind it", () -> paths.line(3, 4), 4);
        Checks.due("7: drawn", Checks.commands(paths), "M0,0 Z Z L3,4");
        for (int i = 5; i <= 150; i++) {
            paths.close();
        }
        Checks.throwsA("7: 151", paths::close, TOO_MANY);
    }

    private static void promise8Command() {
        Paths paths = Checks.drawn("M1 1L2 2C1 1 2 2 3 3Z");
        for (int k = 0; k < 4; k++) {
            int index = k;
            Checks.answers("8: " + k, () -> paths.command(index), k);
        }
        for (int k : STRANGE) {
            Checks.throwsA("8: " + k, () -> paths.command(k), INDEX);
        }
    }

    private static void promise9Number() {
        Paths paths = Checks.drawn("M1 2L3 4C5 6 7 8 9 10Z");
        int[] numbers = {2, 2, 6, 0};
        int next = 256;
        for (int k = 0; k < 4; k++) {
            int index = k;
            for (int i = 0; i < numbers[k]; i++) {
                int place = i;
                Checks.answers("9: " + k + ", " + i, () -> paths.number(index, place), next);
                next += 256;
            }
            Checks.throwsA("9: behind the last of " + k, () -> paths.number(index, numbers[index]), INDEX);
            for (int i : new int[] {-1, 6, Integer.MIN_VALUE, Integer.MAX_VALUE}) {
                Checks.throwsA("9: " + k + ", " + i, () -> paths.number(index, i), INDEX);
            }
        }
        for (int k : STRANGE) {
            Checks.throwsA("9: of " + k, () -> paths.number(k, 0), INDEX);
        }
    }

    private static void writes(String want, int... numbers) {
        Paths paths = new Paths();
        paths.move(numbers[0], numbers[1]);
        for (int i = 2; i + 5 < numbers.length; i += 6) {
            paths.cubic(numbers[i], numbers[i + 1], numbers[i + 2], numbers[i + 3], numbers[i + 4], numbers[i + 5]);
        }
        Checks.answers("10: length of " + want, paths::write, want.length());
        Checks.due("10: the writing", Checks.written(paths), want);
    }

    private static void promise10WriteNumerals() {
        writes("M0 0", 0, 0);
        writes("M1-1", 256, -256);
        writes("M.5-.5", 128, -128);
        writes("M.004-.004", 1, -1);
        writes("M.996-.996", 255, -255);
        writes("M1.004-1.004", 257, -257);
        writes("M.1-.1", 26, -26);
        writes("M.02-.02", 5, -5);
        writes("M.25-.25", 64, -64);
        writes("M.062-.062", 16, -16);
        writes("M.187-.187", 48, -48);
        writes("M4096-4096", 1048576, -1048576);
        writes("M4095.996-4095.996", 1048575, -1048575);
        writes("M10 100", 2560, 25600);
    }

    private static void promise10WriteBlanks() {
        writes("M0 .5", 0, 128);
        writes("M1 .5", 256, 128);
        writes("M.5.5", 128, 128);
        writes("M.5 1.5", 128, 384);
        writes("M1.5.5", 384, 128);
        writes("M-.5.5", -128, 128);
        writes("M.5 0", 128, 0);
        writes("M-1-1", -256, -256);
        writes("M0 0C.5.5 1 .5-.5.5", 0, 0, 128, 128, 256, 128, -128, 128);
        writes("M.5.5C.5 0 .5-1 0 .5", 128, 128, 128, 0, 128, -256, 0, 128);
        Paths paths = Checks.drawn("m.5.5l1 1q0 0 3 0zl.5.5zz");
        paths.write();
        Checks.due("10: all letters", Checks.written(paths), "M.5.5L1.5 1.5C1.5 1.5 2.5 1.5 4.5 1.5ZL1 1ZZ");
    }

    private static void promise11CharAt() {
        Paths paths = Checks.drawn("M1-2");
        Checks.throwsA("11: before the writing", () -> paths.charAt(0), INDEX);
        paths.write();
        for (int i = 0; i < 4; i++) {
            int place = i;
            Checks.answers("11: " + i, () -> paths.charAt(place), "M1-2".charAt(i));
        }
        for (int i : STRANGE) {
            Checks.throwsA("11: " + i, () -> paths.charAt(i), INDEX);
        }
        paths.line(0, 0);
        Checks.due("11: a line changes it not", Checks.written(paths), "M1-2");
        paths.clear();
        paths.move(0, 0);
        paths.write();
        Checks.due("11: the last writing", Checks.written(paths), "M0 0");
        paths.read();
        Checks.answers("11: of no drawing", paths::write, 0);
        Checks.throwsA("11: has no character", () -> paths.charAt(0), INDEX);
    }

    private static void renders(String text, int rule, int want) {
        Paths paths = Checks.drawn(text);
        Checks.answers("12: " + text + " by rule " + rule, () -> paths.render(2, 2, rule), want);
    }

    private static void promise12Render() {
        renders("", 0, 0);
        renders("M0 0", 0, 0);
        renders("M0 0H1V1H0Z", 0, 256);
        renders("M0 0V1H1V0Z", 0, 256);
        renders("M0 0H1V1H0", 1, 256);
        renders("M-9-9H9V9H-9Z", 0, 1024);
        renders("M-9-9H9V9H-9ZM0 0H1V1H0Z", 0, 1024);
        renders("M-9-9H9V9H-9ZM0 0H1V1H0Z", 1, 768);
        renders("M-9-9H9V9H-9ZM0 0V1H1V0Z", 0, 768);
        renders("M0 0H1V1H0V0H1V1H0V0H1V1H0Z", 1, 256);
        renders("M0 0H1V1H0V0H1V1H0Z", 1, 0);
        renders("M0 0H1V1H0V0H1V1H0Z", 0, 256);
        Paths paths = Checks.drawn("M-9-9H9V9H-9Z");
        Checks.answers("12: all", () -> paths.render(8, 8, 0), 16384);
        Checks.answers("12: 1 by 8", () -> paths.render(1, 8, 1), 2048);
        String before = Checks.state(paths);
        for (int bad : new int[] {0, -1, 9, Integer.MIN_VALUE, Integer.MAX_VALUE}) {
            Checks.throwsA("12: width " + bad, () -> paths.render(bad, 1, 0), ARGUMENT);
            Checks.throwsA("12: height " + bad, () -> paths.render(1, bad, 0), ARGUMENT);
        }
        for (int bad : new int[] {-1, 2, Integer.MIN_VALUE, Integer.MAX_VALUE}) {
            Checks.throwsA("12: rule " + bad, () -> paths.render(1, 1, bad), ARGUMENT);
        }
        Checks.due("12: nothing changed", Checks.state(paths), before);
    }

    private static int covers(int rule, int... numbers) {
        Paths paths = new Paths();
        paths.move(numbers[0], numbers[1]);
        for (int i = 2; i < numbers.length; i += 2) {
            paths.line(numbers[i], numbers[i + 1]);
        }
        return paths.render(1, 1, rule);
    }

    private static void promise12RenderEdges() {
        Checks.due("12: left and upper sides belong to it", covers(0, 8, 8, 24, 8, 24, 24, 8, 24), 1);
        Checks.due("12: of either way", covers(0, 8, 8, 8, 24, 24, 24, 24, 8), 1);
        Checks.due("12: just right of a point", covers(0, 9, 8, 24, 8, 24, 24, 9, 24), 0);
        Checks.due("12: just below a point", covers(0, 8, 9, 24, 9, 24, 24, 8, 24), 0);
        Checks.due("12: just beyond the next ones", covers(0, 8, 8, 25, 8, 25, 25, 8, 25), 4);
        Checks.due("12: a slope through points", covers(0, 0, 0, 256, 256, 0, 256), 120);
        Checks.due("12: and from the other side", covers(0, 0, 0, 256, 0, 256, 256), 136);
        Checks.due("12: a third of a number right of a point", covers(0, 8, 7, 9, 10, 20, 10, 20, 7), 0);
        Checks.due("12: a third of a number left of it", covers(0, 8, 9, 7, 6, 20, 6, 20, 9), 1);
        Checks.due("12: one line alone", covers(0, 0, 0, 256, 256), 0);
        Checks.due("12: far outside", covers(0, -1048576, -1048576, 1048576, -1048576, 1048576, 1048576, -1048576, 1048576), 256);
        Checks.due("12: far slopes", covers(0, -1048576, -1048576, 1048576, 1048576, -1048576, 1048576), 120);
        Paths cleared = Checks.drawn("M0 0H1V1");
        cleared.render(1, 1, 0);
        cleared.clear();
        Checks.readText(cleared, "M0 0H1V1H0");
        Checks.answers("12: nothing is left of earlier ones", () -> cleared.render(1, 1, 0), 256);
        Paths closed = Checks.drawn("M0 0H1V1ZL0 1H1M5 5");
        Checks.answers("12: behind CLOSE from the start on", () -> closed.render(1, 1, 0), 256);
    }

    private static void promise12RenderCurves() {
        Paths flat = Checks.drawn("M0 0C0 0 1 0 1 0V1H0Z");
        Checks.answers("12: a flat curve", () -> flat.render(1, 1, 0), 256);
        Paths bow = new Paths();
        bow.move(0, 0);
        bow.cubic(0, 256, 256, 256, 256, 0);
        int inside = 0;
        for (int j = 0; j < 16; j++) {
            for (int i = 0; i < 16; i++) {
                inside += underBow(8 + 16 * i, 8 + 16 * j) ? 1 : 0;
            }
        }
        Checks.answers("12: a bow", () -> bow.render(1, 1, 0), inside);
        Checks.answers("12: a bow, odd", () -> bow.render(1, 1, 1), inside);
    }

    /** Below the sixteen chords of the bow, whose x and y are symmetric and go up, then down. */
    private static boolean underBow(int px, int py) {
        for (int k = 0; k < 16; k++) {
            double x = bowX(k);
            double x2 = bowX(k + 1);
            if (x <= px && px < x2) {
                return py < bowY(k) + (bowY(k + 1) - bowY(k)) * (px - x) / (x2 - x);
            }
        }
        return false;
    }

    private static double bowX(int k) {
        return Math.floor((3 * 256 * (16 - k) * k * k + 256 * k * k * k) / 4096.0 + 0.5);
    }

    private static double bowY(int k) {
        return Math.floor((3 * 256 * (16 - k) * (16 - k) * k + 3 * 256 * (16 - k) * k * k) / 4096.0 + 0.5);
    }

    private static void promise13Covered() {
        Paths paths = Checks.drawn("M1 0H3V.5H1ZM0 1H1V2H0Z");
        Checks.throwsA("13: before render", () -> paths.covered(0, 0), INDEX);
        paths.render(3, 2, 0);
        int[] want = {0, 128, 128, 256, 0, 0};
        for (int y = 0; y < 2; y++) {
            for (int x = 0; x < 3; x++) {
                int column = x;
                int row = y;
                Checks.answers("13: " + x + ", " + y, () -> paths.covered(column, row), want[y * 3 + x]);
            }
        }
        Checks.throwsA("13: beside", () -> paths.covered(3, 0), INDEX);
        Checks.throwsA("13: below", () -> paths.covered(0, 2), INDEX);
        for (int bad : STRANGE) {
            Checks.throwsA("13: x " + bad, () -> paths.covered(bad, 0), INDEX);
            Checks.throwsA("13: y " + bad, () -> paths.covered(0, bad), INDEX);
        }
        paths.move(0, 0);
        Checks.answers("13: as it was at render", () -> paths.covered(1, 0), 128);
        paths.read();
        Checks.answers("13: a new drawing changes nothing", () -> paths.covered(1, 0), 128);
        Checks.throwsA("13: a wrong render", () -> paths.render(9, 9, 0), ARGUMENT);
        Checks.answers("13: changes nothing", () -> paths.covered(1, 0), 128);
        paths.render(2, 1, 0);
        Checks.answers("13: the latest", () -> paths.covered(1, 0), 0);
        Checks.throwsA("13: has its own size", () -> paths.covered(2, 0), INDEX);
    }

    private static void bounds(String text, int... want) {
        Paths paths = Checks.drawn(text);
        for (int what = 0; what < 4; what++) {
            Checks.due("14: bound " + what + " of " + text, paths.bound(what), want[what]);
        }
        for (int what : STRANGE) {
            Checks.due("14: bound " + what, paths.bound(what), PathTexts.NONE);
        }
    }

    private static void promise14Bound() {
        bounds("", 0, 0, 0, 0);
        bounds("M3 4", 768, 1024, 768, 1024);
        bounds("M-3-4z", -768, -1024, -768, -1024);
        bounds("M3 4L-5 6M7-8", -1280, -2048, 1792, 1536);
        bounds("M1 1C9 2-9 3 2 2", -2304, 256, 2304, 768);
        bounds("M1 1C2 9 3-9 2 2", 256, -2304, 768, 2304);
    }

    private static void promise15Told() {
        Paths paths = Checks.drawn("M0 0L1 1");
        Checks.feed(paths, "M1 1L");
        Checks.due("15: commands", paths.told(0), 2);
        Checks.due("15: characters", paths.told(1), 5);
        Checks.due("15: nothing written", paths.told(2), 0);
        Checks.due("15: edges", paths.told(3), 2);
        paths.write();
        Checks.due("15: written", paths.told(2), 8);
        paths.line(256, 512);
        Checks.due("15: written last", paths.told(2), 8);
        Checks.due("15: edges now", paths.told(3), 3);
        Checks.due("15: a wrong text", paths.read(), -6);
        Checks.due("15: goes", paths.told(1), 0);
        for (int what : STRANGE) {
            Checks.due("15: told " + what, paths.told(what), PathTexts.NONE);
        }
    }

    private static void edges(String text, int want) {
        Checks.due("15: edges of " + text, Checks.drawn(text).told(3), want);
    }

    private static void promise15ToldEdges() {
        edges("", 0);
        edges("M1 1", 0);
        edges("M1 1z", 0);
        edges("M1 1zzM2 2z", 0);
        edges("M1 1L2 2", 2);
        edges("M1 1L2 2z", 2);
        edges("M1 1L2 2zz", 2);
        edges("M1 1L1 1z", 2);
        edges("M1 1L2 2L1 1", 3);
        edges("M1 1L2 2M3 3L4 4", 4);
        edges("M1 1L2 2zL3 3", 4);
        edges("M1 1L2 2zL3 3zM4 4", 4);
        edges("M1 1C1 1 1 1 1 1", 17);
        edges("M1 1C1 1 1 1 1 1zC1 1 1 1 1 1", 34);
        edges("M1 1H5 6 7Q1 1 2 2M1 1", 20);
    }

    private static void promise16Clear() {
        Paths paths = Checks.drawn("M0 0H1V1H0Z");
        paths.write();
        paths.render(8, 8, 0);
        Checks.feed(paths, "M1 1");
        paths.clear();
        Checks.due("16: as new", Checks.state(paths), Checks.state(new Paths()));
        Checks.throwsA("16: no MOVE", paths::close, STATE);
        Checks.answers("16: no text", paths::read, 0);
        Checks.throwsA("16: no square", () -> paths.covered(0, 0), INDEX);
        Checks.answers("16: nothing to cover", () -> paths.render(1, 1, 0), 0);
        Checks.answers("16: a square again", () -> paths.covered(0, 0), 0);
        Checks.answers("16: move", () -> paths.move(1, 1), 1);
    }
}

import java.util.StringJoiner;

/** The document's terms of what is drawn, written, covered and thrown, sentence by sentence. */
public final class DrawingSentencesTest {
    private static final Class<IllegalArgumentException> ARGUMENT = IllegalArgumentException.class;
    private static final Class<IllegalStateException> STATE = IllegalStateException.class;
    private static final Class<UnsupportedOperationException> TOO_MANY = UnsupportedOperationException.class;
    private static final Class<IndexOutOfBoundsException> INDEX = IndexOutOfBoundsException.class;
    private static final int MOST = 1048576;

    private DrawingSentencesTest() {
    }

    public static void main(String[] args) {
        sentences().run();
        Checks.end();
    }

    static Sentences sentences() {
        Sentences all = new Sentences().in("Terms");
        addWriting(all);
        addCovering(all);
        addExceptions(all);
        return all;
    }

    private static void addWriting(Sentences all) {
        all.holds("DRAWN are commands, in points as the groups' matrices made them: MOVE 0, LINE 1, CUBIC 2, CLOSE 3.",
                DrawingSentencesTest::drawnAre)
            .holds("WRITING: for each that is drawn a letter M, L, C or Z with its numbers;",
                DrawingSentencesTest::lettersWithNumbers)
            .holds("a numeral has a - for less than 0,", DrawingSentencesTest::lessThanZero)
            .holds("the least digits before the point (none, if it is less than 1,", DrawingSentencesTest::digitsBefore)
            .holds("but \"0\" for 0),", DrawingSentencesTest::zero)
            .holds("and the least number of digits behind it that makes it count for its number",
                DrawingSentencesTest::digitsBehind)
            .holds("(of several, the one next to the number,", DrawingSentencesTest::ofSeveralTheNext)
            .holds("then the least one without its sign);", DrawingSentencesTest::ofSeveralTheLeast)
            .holds("a blank stands before a numeral where it would go on with the one before",
                DrawingSentencesTest::blankWhereItWouldGoOn)
            .holds("(that is, but for the first one behind a letter,", DrawingSentencesTest::noBlankBehindLetter)
            .holds("unless it begins with -,", DrawingSentencesTest::noBlankBeforeSign)
            .holds("or with a point behind a numeral that has a point).", DrawingSentencesTest::noBlankBeforePoint);
    }

    private static void addCovering(Sentences all) {
        all.holds("COVERED: squares of 256 by 256 numbers; a square x, y has points at 256 x + 8 + 16 i, 256 y + 8 + 16 j, "
                + "i and j 0 .. 15.", DrawingSentencesTest::pointsOfSquares)
            .holds("EDGES are lines, from each point to the next;", DrawingSentencesTest::edgesAreLines)
            .holds("a cubic makes 16 of them, by t = k / 16: each number is the sum of its four ones times (16 - k)^3, "
                + "3 (16 - k)^2 k, 3 (16 - k) k^2, k^3, divided by 4096;", DrawingSentencesTest::cubicMakesSixteen)
            .holds("behind a MOVE, or in the end, a subpath that is not closed is as if it was.",
                DrawingSentencesTest::asIfClosed)
            .holds("(The edge back to the start is there if a LINE or CUBIC came since the MOVE, or the CLOSE before,",
                DrawingSentencesTest::edgeBack)
            .holds("wherever that ends.)", DrawingSentencesTest::edgeBackWhereverThatEnds)
            .holds("An edge from y to another y' counts for a point with y <= its y < y', 1 more",
                DrawingSentencesTest::edgeDownCountsMore)
            .holds("(y' < y: y' <= its y < y, 1 less),", DrawingSentencesTest::edgeUpCountsLess)
            .holds("if it is met at the point's row at an x that is not above that of the point.",
                DrawingSentencesTest::edgeIsMetNotAbove)
            .holds("A point is covered, if that sum is not 0 (rule 0),", DrawingSentencesTest::ruleNotZero)
            .holds("or odd (rule 1).", DrawingSentencesTest::ruleOdd);
    }

    private static void addExceptions(Sentences all) {
        all.holds("IndexOutOfBounds: there is no such command, number, character, or square.",
                DrawingSentencesTest::noSuchIndex)
            .holds("IllegalArgument: another number is none that is told.", DrawingSentencesTest::noneThatIsTold)
            .holds("IllegalState as told.", DrawingSentencesTest::stateAsTold)
            .holds("UnsupportedOperation: there would be more than there may be.", DrawingSentencesTest::moreThanMayBe)
            .holds("Of several that a call names, the first one.", DrawingSentencesTest::firstOfSeveral)
            .holds("A call that throws changes nothing.", DrawingSentencesTest::throwingChangesNothing);
    }

    // ---- drawn and written

    private static void drawnAre() {
        Paths paths = Checks.drawn("(2 0 0 2 1 0M1 1L2 2C3 3 4 4 5 5Z)");
        for (int kind = 0; kind < 4; kind++) {
            Checks.due("kind " + kind, paths.command(kind), kind);
        }
        Checks.due("points behind the matrix", Checks.commands(paths), "M768,512 L1280,1024 C1792,1536,2304,2048,2816,2560 Z");
        Paths given = new Paths();
        given.move(1, 2);
        given.line(3, 4);
        given.cubic(5, 6, 7, 8, 9, 10);
        given.close();
        Checks.due("by calls", Checks.commands(given), "M1,2 L3,4 C5,6,7,8,9,10 Z");
    }

    private static void lettersWithNumbers() {
        rewrites("", "");
        rewrites("m1 2l3 4h1v1c1 1 2 2 3 3z", "M1 2L4 6L5 6L5 7C6 8 7 9 8 10Z");
        rewrites("M0 0 1 1 2 2", "M0 0L1 1L2 2");
        rewrites("M0 0ZZM1 1", "M0 0ZZM1 1");
        rewrites("M0 0" + "Z".repeat(149), "M0 0" + "Z".repeat(149));
        rewrites("M0 0Q3 3 6 0", "M0 0C2 2 4 2 6 0");
    }

    private static void rewrites(String text, String want) {
        Paths paths = Checks.drawn(text);
        Checks.answers("how many characters for " + text, paths::write, want.length());
        Checks.due("writing of " + text, Checks.written(paths), want);
    }

    /** What one number is written as, behind a letter. */
    private static void numeral(int number, String want) {
        Paths paths = new Paths();
        paths.move(number, 0);
        paths.write();
        Checks.due("numeral of " + number, Checks.written(paths), "M" + want + " 0");
        Checks.readText(paths, "M" + want + " 0");
        Checks.due("what " + want + " counts for", paths.number(0, 0), number);
    }

    private static void lessThanZero() {
        numeral(-1, "-.004");
        numeral(-255, "-.996");
        numeral(-256, "-1");
        numeral(-257, "-1.004");
        numeral(-MOST, "-4096");
        numeral(0, "0");
        numeral(1, ".004");
        numeral(MOST, "4096");
    }

    private static void digitsBefore() {
        numeral(255, ".996");
        numeral(128, ".5");
        numeral(-128, "-.5");
        numeral(256, "1");
        numeral(257, "1.004");
        numeral(384, "1.5");
        numeral(9 * 256, "9");
        numeral(10 * 256, "10");
        numeral(99 * 256 + 128, "99.5");
        numeral(100 * 256, "100");
        numeral(-999 * 256, "-999");
        numeral(1000 * 256, "1000");
        numeral(MOST - 1, "4095.996");
    }

    private static void zero() {
        numeral(0, "0");
        numeral(1, ".004");
        numeral(-1, "-.004");
        rewrites("M0 0L-0 .001", "M0 0L0 0");
        Paths paths = new Paths();
        paths.move(0, 0);
        paths.cubic(0, 0, 0, 0, 0, 0);
        paths.write();
        Checks.due("all zero", Checks.written(paths), "M0 0C0 0 0 0 0 0");
    }

    private static void digitsBehind() {
        numeral(512, "2");
        numeral(26, ".1");
        numeral(51, ".2");
        numeral(77, ".3");
        numeral(102, ".4");
        numeral(-26, "-.1");
        numeral(25, ".098");
        numeral(27, ".105");
        numeral(3, ".01");
        numeral(5, ".02");
        numeral(64, ".25");
        numeral(192, ".75");
        numeral(4, ".016");
        numeral(2, ".008");
        numeral(250, ".977");
        numeral(256 * 7 + 230, "7.9");
        numeral(256 * 7 + 253, "7.99");
        numeral(256 * 7 + 255, "7.996");
    }

    private static void ofSeveralTheNext() {
        numeral(1, ".004");
        numeral(-1, "-.004");
        numeral(2, ".008");
        numeral(7, ".027");
        numeral(-7, "-.027");
        numeral(4, ".016");
        numeral(255, ".996");
        numeral(-255, "-.996");
        numeral(256 * 4000 + 1, "4000.004");
    }

    private static void ofSeveralTheLeast() {
        // Odd sixteenths end half way between two thousandths.
        String[] sixteenths = {".062", ".187", ".312", ".437", ".562", ".687", ".812", ".937"};
        for (int i = 0; i < sixteenths.length; i++) {
            int number = 16 * (2 * i + 1);
            numeral(number, sixteenths[i]);
            numeral(-number, "-" + sixteenths[i]);
            numeral(256 + number, "1" + sixteenths[i]);
            numeral(-256 - number, "-1" + sixteenths[i]);
        }
    }

    /** A CUBIC with these numbers, behind a MOVE to 0, 0. */
    private static void cubicWritten(String want, int... numbers) {
        Paths paths = new Paths();
        paths.move(0, 0);
        paths.cubic(numbers[0], numbers[1], numbers[2], numbers[3], numbers[4], numbers[5]);
        Checks.answers("how many for " + want, paths::write, want.length() + 4);
        Checks.due("writing", Checks.written(paths), "M0 0" + want);
        Checks.due("it is read again", Checks.readText(paths, Checks.written(paths)), 2);
        for (int i = 0; i < 6; i++) {
            Checks.due("number " + i + " again", paths.number(1, i), numbers[i]);
        }
    }

    private static void blankWhereItWouldGoOn() {
        cubicWritten("C1 2 3 4 5 6", 256, 512, 768, 1024, 1280, 1536);
        cubicWritten("C0 0 10 0 0 0", 0, 0, 2560, 0, 0, 0);
        cubicWritten("C.5 1 .5 1 .5 1", 128, 256, 128, 256, 128, 256);
        cubicWritten("C1 .5 1 .5 1 .5", 256, 128, 256, 128, 256, 128);
        cubicWritten("C1.5 1.5 2 1.5 0 .5", 384, 384, 512, 384, 0, 128);
        cubicWritten("C-1 1-.5 1-1.5 1", -256, 256, -128, 256, -384, 256);
        cubicWritten("C-1 .5 0 .5 1 0", -256, 128, 0, 128, 256, 0);
    }

    private static void noBlankBehindLetter() {
        rewrites("M1 0L2 0C3 0 3 0 3 0Z", "M1 0L2 0C3 0 3 0 3 0Z");
        rewrites("M.5.5L.5.5C.5.5.5.5.5.5Z", "M.5.5L.5.5C.5.5.5.5.5.5Z");
        rewrites("M.5 0L.5 0L0 .5L0 0", "M.5 0L.5 0L0 .5L0 0");
        rewrites("M-1 0L-.5 0L1 .5L.5.5", "M-1 0L-.5 0L1 .5L.5.5");
    }

    private static void noBlankBeforeSign() {
        cubicWritten("C-1-2-3-4-5-6", -256, -512, -768, -1024, -1280, -1536);
        cubicWritten("C1-2 3-.5.5-.5", 256, -512, 768, -128, 128, -128);
        cubicWritten("C-.5-.5-1.5-1.5 0-.004", -128, -128, -384, -384, 0, -1);
    }

    private static void noBlankBeforePoint() {
        cubicWritten("C.5.5.5.5.5.5", 128, 128, 128, 128, 128, 128);
        cubicWritten("C1.5.5 0 .5.25.75", 384, 128, 0, 128, 64, 192);
        cubicWritten("C-1.5.5-.5.5-1 .5", -384, 128, -128, 128, -256, 128);
        cubicWritten("C1.5 1 .5 1.5.5 0", 384, 256, 128, 384, 128, 0);
    }

    // ---- covered

    private static Paths box(int left, int top, int right, int bottom) {
        Paths paths = new Paths();
        paths.move(left, top);
        paths.line(right, top);
        paths.line(right, bottom);
        paths.line(left, bottom);
        paths.close();
        return paths;
    }

    private static void pointsOfSquares() {
        int[][] places = {{0, 0}, {0, 15}, {7, 0}, {7, 15}, {3, 7}, {4, 8}};
        for (int[] across : places) {
            for (int[] down : places) {
                int x = 256 * across[0] + 8 + 16 * across[1];
                int y = 256 * down[0] + 8 + 16 * down[1];
                Paths paths = box(x, y, x + 1, y + 1);
                Checks.answers("one point at " + x + ", " + y, () -> paths.render(8, 8, 0), 1);
                Checks.answers("it is in its square", () -> paths.covered(across[0], down[0]), 1);
                Checks.due("none beside it", box(x + 1, y, x + 16, y + 16).render(8, 8, 0), 0);
                Checks.due("none below it", box(x, y + 1, x + 16, y + 16).render(8, 8, 0), 0);
                Checks.due("none before it", box(x - 15, y - 15, x, y + 1).render(8, 8, 0), 0);
            }
        }
        Checks.due("a square", box(256, 512, 512, 768).render(8, 8, 0), 256);
        Checks.due("all of eight by eight", box(0, 0, 2048, 2048).render(8, 8, 0), 16384);
        Checks.due("none left of 0 or above", box(-1000, -1000, 8, 8).render(8, 8, 0), 0);
        Checks.due("none behind the last ones", box(2041, 0, 5000, 5000).render(8, 8, 0), 0);
    }

    private static void edgesAreLines() {
        edges("", 0);
        edges("M1 1L2 2L3 4", 3);
        edges("M1 1L2 2L3 4Z", 3);
        edges("M1 1H2V3H1Z", 4);
        edges("M1 1L1 1L1 1Z", 3);
        Paths triangle = Checks.drawn("M0 0H1V1Z");
        Checks.answers("a triangle", () -> triangle.render(1, 1, 0), 136);
        Paths bent = Checks.drawn("M0 0L1 0L1 1L0 1L.5.5Z");
        Checks.answers("a square without a triangle", () -> bent.render(1, 1, 0), 200);
    }

    private static void edges(String text, int want) {
        Checks.due("edges of " + text, Checks.drawn(text).told(3), want);
    }

    private static void cubicMakesSixteen() {
        edges("M1 1C1 1 1 1 1 1", 17);
        edges("M1 1C1 1 2 2 3 3Z", 17);
        edges("M1 1Q1 1 2 2T3 3S1 1 2 2", 49);
        edges("M1 1C1 1 2 2 3 3L1 1", 18);
        int[][] curves = {{0, 0, 0, 256, 256, 256, 256, 0}, {0, 0, 700, 0, -700, 256, 0, 256}, {5, 9, 77, 311, 401, -5, 99, 283},
            {MOST, -MOST, -MOST, MOST, MOST, MOST, -MOST, -MOST}, {-MOST, 0, MOST, 900, -MOST, -900, MOST, 511},
            {256, 256, 0, 256, 0, 0, 256, 0}, {33, -40, 260, 55, -11, 140, 222, 500}};
        for (int[] curve : curves) {
            Checks.due("cubic to " + curve[6] + ", " + curve[7], cubicAndSides(curve), sixteenLinesAndSides(curve));
        }
    }

    /** What is covered between a cubic and lines on its right side. */
    static String cubicAndSides(int[] n) {
        Paths paths = new Paths();
        paths.move(n[0], n[1]);
        paths.cubic(n[2], n[3], n[4], n[5], n[6], n[7]);
        return coveredOnRightSide(paths, n);
    }

    static String sixteenLinesAndSides(int[] n) {
        Paths paths = new Paths();
        paths.move(n[0], n[1]);
        for (int k = 1; k <= 16; k++) {
            paths.line(onCurve(n, 0, k), onCurve(n, 1, k));
        }
        return coveredOnRightSide(paths, n);
    }

    private static int onCurve(int[] n, int axis, int k) {
        long rest = 16 - k;
        long sum = n[axis] * rest * rest * rest + 3 * n[axis + 2] * rest * rest * k + 3 * n[axis + 4] * rest * k * k
            + (long) n[axis + 6] * k * k * k;
        return (int) Math.floorDiv(sum + 2048, 4096L);
    }

    private static String coveredOnRightSide(Paths paths, int[] n) {
        paths.line(600, n[7]);
        paths.line(600, n[1]);
        paths.close();
        StringJoiner all = new StringJoiner(" ");
        for (int rule = 0; rule < 2; rule++) {
            all.add(paths.render(2, 2, rule) + ":");
            for (int i = 0; i < 4; i++) {
                all.add("" + paths.covered(i % 2, i / 2));
            }
        }
        return all.toString();
    }

    private static void asIfClosed() {
        for (String open : new String[] {"M0 0H1V1", "M0 0H1V1H0", "M0 0C1 0 1 0 1 1", "M0 0H1V1ZM0 0V1H1"}) {
            Paths left = Checks.drawn(open);
            Paths closed = Checks.drawn(open + "Z");
            Paths moved = Checks.drawn(open + "M9 9");
            Paths another = Checks.drawn(open + "M9 9H10V10");
            for (int rule = 0; rule < 2; rule++) {
                int want = closed.render(2, 2, rule);
                Checks.due("in the end: " + open, left.render(2, 2, rule), want);
                Checks.due("behind a MOVE: " + open, moved.render(2, 2, rule), want);
                Checks.due("behind a MOVE with lines: " + open, another.render(2, 2, rule), want);
            }
        }
        Checks.due("not closed", Checks.drawn("M0 0H1V1").render(1, 1, 0), 136);
        Checks.due("each to its own start", Checks.drawn("M0 0H1V1M0 0V1H1").render(1, 1, 0), 256);
        edges("M1 1L2 2", 2);
        edges("M1 1L2 2M3 3", 2);
        edges("M1 1L2 2M3 3L4 4", 4);
    }

    private static void edgeBack() {
        edges("M1 1", 0);
        edges("M1 1Z", 0);
        edges("M1 1M2 2M3 3", 0);
        edges("M1 1ZZM2 2Z", 0);
        edges("M1 1L2 2Z", 2);
        edges("M1 1L2 2ZZ", 2);
        edges("M1 1L2 2ZM3 3", 2);
        edges("M1 1L2 2ZL3 3", 4);
        edges("M1 1L2 2ZL3 3Z", 4);
        edges("M1 1L2 2ZL3 3ZZM4 4", 4);
        edges("M1 1C1 1 2 2 3 3ZC1 1 2 2 3 3", 34);
        edges("M1 1C1 1 2 2 3 3M1 1", 17);
        Paths behind = Checks.drawn("M0 0H1V1ZV1H1");
        Checks.answers("behind a CLOSE it goes on from the start, and back to it", () -> behind.render(1, 1, 0), 256);
        Paths curve = Checks.drawn("M0 0L5 5ZC0 0 1 0 1 0V1H0");
        Checks.answers("a cubic behind a CLOSE begins at the start", () -> curve.render(1, 1, 0), 256);
    }

    private static void edgeBackWhereverThatEnds() {
        edges("M1 1L1 1", 2);
        edges("M1 1L1 1Z", 2);
        edges("M1 1L2 2L1 1", 3);
        edges("M1 1L2 2L1 1Z", 3);
        edges("M1 1C2 2 3 3 1 1Z", 17);
        edges("M1 1L2 2L1 1ZL1 1", 5);
        Paths paths = Checks.drawn("M0 0H1V1H0V0");
        Checks.answers("an edge back of no length changes nothing", () -> paths.render(1, 1, 1), 256);
    }

    /** The points of 1 by 1 squares that a way of lines covers, by a rule. */
    private static int covers(int rule, int... numbers) {
        Paths paths = new Paths();
        paths.move(numbers[0], numbers[1]);
        for (int i = 2; i < numbers.length; i += 2) {
            paths.line(numbers[i], numbers[i + 1]);
        }
        return paths.render(1, 1, rule);
    }

    private static void edgeDownCountsMore() {
        // The left side goes down, the right one is too far away to count.
        Checks.due("from a point's y on", covers(0, 0, 8, 0, 9, 900, 9, 900, 8), 16);
        Checks.due("not above its y", covers(0, 0, 9, 0, 24, 900, 24, 900, 9), 0);
        Checks.due("up to below its y'", covers(0, 0, 8, 0, 24, 900, 24, 900, 8), 16);
        Checks.due("two rows", covers(0, 0, 8, 0, 25, 900, 25, 900, 8), 32);
        Checks.due("a level edge counts not", covers(0, 0, 8, 900, 8), 0);
        Checks.due("edges that meet at a row count once", covers(1, 0, 0, 0, 8, 0, 256, 900, 256, 900, 0), 256);
        Checks.due("1 more, and 1 more", covers(1, 0, 0, 0, 256, 900, 256, 900, 0, 0, 0, 0, 256, 900, 256, 900, 0), 0);
        Checks.due("and by the other rule", covers(0, 0, 0, 0, 256, 900, 256, 900, 0, 0, 0, 0, 256, 900, 256, 900, 0), 256);
    }

    private static void edgeUpCountsLess() {
        Checks.due("from a point's y on", covers(0, 0, 9, 0, 8, 900, 8, 900, 9), 16);
        Checks.due("not above its y", covers(0, 0, 24, 0, 9, 900, 9, 900, 24), 0);
        Checks.due("up to below y", covers(0, 0, 24, 0, 8, 900, 8, 900, 24), 16);
        Checks.due("two rows", covers(0, 0, 25, 0, 8, 900, 8, 900, 25), 32);
        Checks.due("edges that meet at a row count once", covers(1, 0, 256, 0, 8, 0, 0, 900, 0, 900, 256), 256);
        Checks.due("1 less takes 1 more away", covers(0, 0, 0, 0, 256, 128, 256, 128, 0), 128);
        Checks.due("the same way back takes all away", covers(0, 0, 0, 0, 256), 0);
        Checks.due("a turn at a row, going down", covers(0, 0, 0, 128, 8, 256, 0, 256, -9, 0, -9), 0);
        Checks.due("a turn at a row, going up", covers(1, 0, 24, 128, 8, 256, 24), covers(0, 0, 24, 128, 8, 256, 24));
    }

    private static void edgeIsMetNotAbove() {
        Checks.due("at the point's x", covers(0, 8, 8, 24, 8, 24, 24, 8, 24), 1);
        Checks.due("1 more than it", covers(0, 9, 8, 24, 8, 24, 24, 9, 24), 0);
        Checks.due("1 less than it", covers(0, 7, 8, 24, 8, 24, 24, 7, 24), 1);
        Checks.due("the right side at the point's x takes it away", covers(0, 0, 8, 8, 8, 8, 24, 0, 24), 0);
        Checks.due("1 more than it leaves it", covers(0, 0, 8, 9, 8, 9, 24, 0, 24), 1);
        Checks.due("a slope down through the points", covers(0, 0, 0, 256, 256, 256, 0), 136);
        Checks.due("the same slope from the other side", covers(0, 0, 0, 256, 256, 0, 256), 120);
        Checks.due("a slope up through the points", covers(0, 0, 256, 256, 0, 256, 256), 136);
        Checks.due("the same slope from the other side", covers(0, 0, 256, 256, 0, 0, 0), 120);
        // A third of 1/256 beside a point is beside it.
        Checks.due("a third more", covers(0, 8, 7, 9, 10, 20, 10, 20, 7), 0);
        Checks.due("a third less", covers(0, 8, 9, 7, 6, 20, 6, 20, 9), 1);
        Checks.due("a third more, up", covers(0, 9, 10, 8, 7, 20, 7, 20, 10), 0);
        Checks.due("a third less, up", covers(0, 7, 6, 8, 9, 20, 9, 20, 6), 1);
        Checks.due("far ends", covers(0, -MOST, -MOST, MOST, MOST, -MOST, MOST), 120);
        Checks.due("far ends, the other side", covers(0, -MOST, -MOST, MOST, MOST, MOST, -MOST), 136);
        Checks.due("all far round it", covers(1, -MOST, -MOST, MOST, -MOST, MOST, MOST, -MOST, MOST), 256);
        Checks.due("all on the right of it", covers(0, 249, -9, 900, -9, 900, 900, 249, 900), 0);
    }

    private static final String RIGHT = "M0 0H1V1H0Z";
    private static final String LEFT = "M0 0V1H1V0Z";

    private static void rules(String text, int notZero, int odd) {
        Paths paths = Checks.drawn(text);
        Checks.answers("rule 0: " + text, () -> paths.render(1, 1, 0), notZero);
        Checks.answers("rule 1: " + text, () -> paths.render(1, 1, 1), odd);
    }

    private static void ruleNotZero() {
        rules("", 0, 0);
        rules(RIGHT, 256, 256);
        rules(LEFT, 256, 256);
        rules(RIGHT + RIGHT, 256, 0);
        rules(LEFT + LEFT, 256, 0);
        rules(RIGHT + LEFT, 0, 0);
        rules(RIGHT + "M.5 0V1H1V0Z", 128, 128);
        rules(RIGHT + "M.5 0H1V1H.5Z", 256, 128);
    }

    private static void ruleOdd() {
        rules(RIGHT + RIGHT + RIGHT, 256, 256);
        rules(LEFT + LEFT + LEFT, 256, 256);
        rules(RIGHT.repeat(4), 256, 0);
        rules(LEFT.repeat(4), 256, 0);
        rules(LEFT.repeat(2) + RIGHT, 256, 256);
        rules(LEFT.repeat(29), 256, 256);
    }

    // ---- exceptions

    private static final int[] FAR = {Integer.MIN_VALUE, Integer.MIN_VALUE + 1, -65536, -256, -1, 256, 65536, 715827883,
        Integer.MAX_VALUE};

    private static void noSuchIndex() {
        Paths paths = Checks.drawn("M0 0H1C1 1 2 2 3 3Z");
        paths.write();
        paths.render(3, 2, 0);
        for (int far : FAR) {
            Checks.throwsA("command " + far, () -> paths.command(far), INDEX);
            Checks.throwsA("number 0 of " + far, () -> paths.number(far, 0), INDEX);
            Checks.throwsA("number " + far + " of 2", () -> paths.number(2, far), INDEX);
            Checks.throwsA("character " + far, () -> paths.charAt(far), INDEX);
            Checks.throwsA("square " + far + ", 0", () -> paths.covered(far, 0), INDEX);
            Checks.throwsA("square 0, " + far, () -> paths.covered(0, far), INDEX);
        }
        Checks.throwsA("the command behind the last", () -> paths.command(4), INDEX);
        Checks.throwsA("a number of it", () -> paths.number(4, 0), INDEX);
        Checks.throwsA("the number behind MOVE's last", () -> paths.number(0, 2), INDEX);
        Checks.throwsA("the number behind LINE's last", () -> paths.number(1, 2), INDEX);
        Checks.throwsA("the number behind CUBIC's last", () -> paths.number(2, 6), INDEX);
        Checks.throwsA("a number of CLOSE", () -> paths.number(3, 0), INDEX);
        Checks.throwsA("the character behind the last", () -> paths.charAt(paths.told(2)), INDEX);
        Checks.throwsA("the square beside the last", () -> paths.covered(3, 0), INDEX);
        Checks.throwsA("the square below the last", () -> paths.covered(0, 2), INDEX);
        Checks.answers("the last command", () -> paths.command(3), 3);
        Checks.answers("the last number", () -> paths.number(2, 5), 768);
        Checks.answers("the last character", () -> paths.charAt(paths.told(2) - 1), 'Z');
        Checks.answers("the last square", () -> paths.covered(2, 1), 0);
    }

    private static void noneThatIsTold() {
        Paths paths = Checks.drawn("M0 0");
        for (int far : new int[] {Integer.MIN_VALUE, -MOST - 1, MOST + 1, Integer.MAX_VALUE}) {
            Checks.throwsA("move x " + far, () -> paths.move(far, 0), ARGUMENT);
            Checks.throwsA("move y " + far, () -> paths.move(0, far), ARGUMENT);
            Checks.throwsA("line x " + far, () -> paths.line(far, 0), ARGUMENT);
            Checks.throwsA("line y " + far, () -> paths.line(0, far), ARGUMENT);
            for (int i = 0; i < 6; i++) {
                int[] n = new int[6];
                n[i] = far;
                Checks.throwsA("cubic " + i + " " + far, () -> paths.cubic(n[0], n[1], n[2], n[3], n[4], n[5]), ARGUMENT);
            }
        }
        for (int far : FAR) {
            Checks.throwsA("width " + far, () -> paths.render(far, 1, 0), ARGUMENT);
            Checks.throwsA("height " + far, () -> paths.render(1, far, 0), ARGUMENT);
            Checks.throwsA("rule " + far, () -> paths.render(1, 1, far), ARGUMENT);
        }
        for (int far : FAR) {
            Checks.answers("bound " + far + " is NONE instead", () -> paths.bound(far), PathTexts.NONE);
            Checks.answers("told " + far + " is NONE instead", () -> paths.told(far), PathTexts.NONE);
        }
    }

    private static void noMoveYet(String when, Paths paths) {
        Checks.throwsA("line " + when, () -> paths.line(0, 0), STATE);
        Checks.throwsA("cubic " + when, () -> paths.cubic(0, 0, 0, 0, 0, 0), STATE);
        Checks.throwsA("close " + when, paths::close, STATE);
        Checks.answers("then move " + when, () -> paths.move(0, 0), 1);
        Checks.answers("and close " + when, paths::close, 2);
    }

    private static void stateAsTold() {
        noMoveYet("on a new object", new Paths());
        Paths cleared = Checks.drawn("M1 1L2 2");
        cleared.clear();
        noMoveYet("behind clear()", cleared);
        Paths emptied = Checks.drawn("M1 1L2 2");
        emptied.read();
        noMoveYet("behind an empty text", emptied);
        Paths waiting = new Paths();
        Checks.feed(waiting, "M1 1");
        noMoveYet("before the text is read", waiting);
        Paths wrong = new Paths();
        Checks.readText(wrong, "M1 1L");
        noMoveYet("behind a wrong text", wrong);
        Paths read = Checks.drawn("M1 1L2 2Z");
        Checks.answers("a text's MOVE is one", () -> read.line(0, 0), 4);
        Checks.answers("and for a cubic", () -> read.cubic(0, 0, 0, 0, 0, 0), 5);
        Checks.answers("and for a close", read::close, 6);
    }

    private static void moreThanMayBe() {
        Paths paths = Checks.drawn("M0 0" + "Z".repeat(149));
        Checks.throwsA("move", () -> paths.move(0, 0), TOO_MANY);
        Checks.throwsA("line", () -> paths.line(0, 0), TOO_MANY);
        Checks.throwsA("cubic", () -> paths.cubic(0, 0, 0, 0, 0, 0), TOO_MANY);
        Checks.throwsA("close", paths::close, TOO_MANY);
        Paths less = Checks.drawn("M0 0" + "Z".repeat(148));
        Checks.answers("the last one", less::close, 150);
        Checks.throwsA("one more", less::close, TOO_MANY);
        Paths full = new Paths();
        Checks.feed(full, " ".repeat(1200));
        Checks.throwsA("text", () -> full.text(' '), TOO_MANY);
        Checks.answers("nothing more", () -> full.text(0), 1200);
    }

    private static void firstOfSeveral() {
        Paths empty = new Paths();
        Checks.throwsA("line: number before state", () -> empty.line(MOST + 1, 0), ARGUMENT);
        Checks.throwsA("line: number before state", () -> empty.line(0, -MOST - 1), ARGUMENT);
        Checks.throwsA("cubic: number before state", () -> empty.cubic(0, 0, 0, 0, 0, MOST + 1), ARGUMENT);
        Paths full = Checks.drawn("M0 0" + "Z".repeat(149));
        Checks.throwsA("move: number before too many", () -> full.move(0, MOST + 1), ARGUMENT);
        Checks.throwsA("line: number before too many", () -> full.line(-MOST - 1, 0), ARGUMENT);
        Checks.throwsA("cubic: number before too many", () -> full.cubic(MOST + 1, 0, 0, 0, 0, 0), ARGUMENT);
        Checks.feed(full, " ".repeat(1200));
        Checks.throwsA("text: character before too many", () -> full.text(0x0120L), ARGUMENT);
        Checks.throwsA("text: character before too many", () -> full.text(0x7f20202020202020L), ARGUMENT);
        Checks.throwsA("text: too many", () -> full.text(0x20L), TOO_MANY);
    }

    private static void throwingChangesNothing() {
        unchanged("few", "M1 1H2C1 1 2 2 3 3Z", 4);
        unchanged("many", "M1 1" + "Z".repeat(149), 1198);
        unchanged("none", "", 4);
    }

    /** Throws whatever can be thrown, and looks at all that is told then, the text too. */
    private static void unchanged(String name, String drawing, int characters) {
        Paths paths = Checks.drawn(drawing);
        paths.write();
        paths.render(2, 3, 0);
        Checks.feed(paths, "M5 5" + " ".repeat(characters - 4));
        String before = Checks.state(paths);
        Checks.throwsA(name + ": text", () -> paths.text(0x1f39L), ARGUMENT);
        Checks.throwsA(name + ": text", () -> paths.text(0x8039L), ARGUMENT);
        Checks.throwsA(name + ": move", () -> paths.move(1, MOST + 1), ARGUMENT);
        Checks.throwsA(name + ": line", () -> paths.line(1, MOST + 1), ARGUMENT);
        Checks.throwsA(name + ": cubic", () -> paths.cubic(1, 1, 1, 1, 1, MOST + 1), ARGUMENT);
        Checks.throwsA(name + ": render", () -> paths.render(9, 1, 0), ARGUMENT);
        Checks.throwsA(name + ": render", () -> paths.render(1, 9, 0), ARGUMENT);
        Checks.throwsA(name + ": render", () -> paths.render(1, 1, 2), ARGUMENT);
        Checks.throwsA(name + ": command", () -> paths.command(999), INDEX);
        Checks.throwsA(name + ": number", () -> paths.number(0, 999), INDEX);
        Checks.throwsA(name + ": charAt", () -> paths.charAt(9999), INDEX);
        Checks.throwsA(name + ": covered", () -> paths.covered(9, 0), INDEX);
        if (paths.told(0) == 150) {
            Checks.throwsA(name + ": text", () -> paths.text(0x393939L), TOO_MANY);
            Checks.throwsA(name + ": move", () -> paths.move(3, 4), TOO_MANY);
            Checks.throwsA(name + ": line", () -> paths.line(3, 4), TOO_MANY);
            Checks.throwsA(name + ": cubic", () -> paths.cubic(3, 4, 3, 4, 3, 4), TOO_MANY);
            Checks.throwsA(name + ": close", paths::close, TOO_MANY);
        } else if (paths.told(0) == 0) {
            Checks.throwsA(name + ": line", () -> paths.line(3, 4), STATE);
            Checks.throwsA(name + ": cubic", () -> paths.cubic(3, 4, 3, 4, 3, 4), STATE);
            Checks.throwsA(name + ": close", paths::close, STATE);
        }
        Checks.due(name + ": all that is told", Checks.state(paths), before);
        Checks.answers(name + ": the text is read", paths::read, 1);
        Checks.due(name + ": as it was", Checks.commands(paths), "M1280,1280");
    }
}

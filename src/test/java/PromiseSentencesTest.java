/** The document's promises, sentence by sentence. */
public final class PromiseSentencesTest {
    private static final Class<IllegalArgumentException> ARGUMENT = IllegalArgumentException.class;
    private static final Class<IllegalStateException> STATE = IllegalStateException.class;
    private static final Class<UnsupportedOperationException> TOO_MANY = UnsupportedOperationException.class;
    private static final Class<IndexOutOfBoundsException> INDEX = IndexOutOfBoundsException.class;
    private static final int MOST = 1048576;
    private static final int[] OTHER_WHATS = {-1, 4, 5, 8, 256, -2147483648, -2147483647, 2147483647};

    private PromiseSentencesTest() {
    }

    public static void main(String[] args) {
        sentences().run();
        Checks.end();
    }

    static Sentences sentences() {
        Sentences all = new Sentences();
        addNewAndText(all);
        addRead(all);
        addCommands(all);
        addTelling(all);
        return all;
    }

    private static void addNewAndText(Sentences all) {
        all.in("What it is")
            .holds("An object is used for at most 512 calls after it has been made; what later calls answer is free.",
                PromiseSentencesTest::answers512Calls);
        all.in("Promise 1: A new object")
            .holds("An empty text,", PromiseSentencesTest::newHasNoText)
            .holds("no drawing;", PromiseSentencesTest::newHasNoDrawing)
            .holds("nothing was written,", PromiseSentencesTest::newHasNothingWritten)
            .holds("no square was covered.", PromiseSentencesTest::newHasNoSquare);
        all.in("Promise 2: text")
            .holds("Characters come behind the text:", PromiseSentencesTest::textComesBehind)
            .holds("those in the eight bytes of a long, the lowest first,", PromiseSentencesTest::textLowestFirst)
            .holds("0 left out:", PromiseSentencesTest::textZeroLeftOut)
            .holds("how many it has.", PromiseSentencesTest::textHowMany)
            .holds("IllegalArgument: another one is none that may be.", PromiseSentencesTest::textOtherCharacter);
    }

    private static void addRead(Sentences all) {
        all.in("Promise 3: read")
            .holds("The text is read, and goes:", PromiseSentencesTest::readTextGoes)
            .holds("how many commands are drawn, which are the drawing then;", PromiseSentencesTest::readDrawing)
            .holds("if it is wrong: NONE less the place of the character where that is seen:",
                PromiseSentencesTest::readNoneLessPlace)
            .holds("the first one of a numeral;", PromiseSentencesTest::readFirstOfNumeral)
            .holds("a letter, or bracket, that can't be,", PromiseSentencesTest::readLetterOrBracket)
            .holds("or whose command makes a number too great,", PromiseSentencesTest::readNumberTooGreat)
            .holds("or one command too many;", PromiseSentencesTest::readOneTooMany)
            .holds("the text's end;", PromiseSentencesTest::readTextsEnd)
            .holds("the drawing stays.", PromiseSentencesTest::readDrawingStays);
    }

    private static void addCommands(Sentences all) {
        all.in("Promise 4: move")
            .holds("A MOVE comes behind the drawing: how many commands it has.", PromiseSentencesTest::moveComesBehind)
            .holds("IllegalArgument: a number is not -1048576 .. 1048576.", PromiseSentencesTest::moveNumberTooGreat)
            .holds("UnsupportedOperation: there are 150.", PromiseSentencesTest::moveThereAre150);
        all.in("Promise 5: line")
            .holds("Likewise a LINE.", PromiseSentencesTest::likewiseLine)
            .holds("IllegalState: there is no MOVE yet.", PromiseSentencesTest::lineNoMoveYet);
        all.in("Promise 6: cubic")
            .holds("Likewise a CUBIC.", PromiseSentencesTest::likewiseCubic);
        all.in("Promise 7: close")
            .holds("Likewise a CLOSE.", PromiseSentencesTest::likewiseClose);
        all.in("Promise 8: command")
            .holds("What a command that is drawn is.", PromiseSentencesTest::commandIs);
        all.in("Promise 9: number")
            .holds("Number i of it.", PromiseSentencesTest::numberOfIt);
        all.in("Promise 10: write")
            .holds("The drawing is written: how many characters.", PromiseSentencesTest::writeHowMany);
        all.in("Promise 11: charAt")
            .holds("A character that was written last.", PromiseSentencesTest::charAtWrittenLast);
    }

    private static void addTelling(Sentences all) {
        all.in("Promise 12: render")
            .holds("Squares 0 .. width - 1 by 0 .. height - 1 are covered by the drawing as it is: how many points.",
                PromiseSentencesTest::renderHowMany)
            .holds("IllegalArgument: a size is not 1 .. 8,", PromiseSentencesTest::renderSize)
            .holds("the rule not 0 or 1.", PromiseSentencesTest::renderRule);
        all.in("Promise 13: covered")
            .holds("How many points of a square were covered by the latest render().", PromiseSentencesTest::coveredLatest);
        all.in("Promise 14: bound")
            .holds("The least x (what = 0), y (1), greatest x (2), y (3) of all points of the drawing, control points, too;",
                PromiseSentencesTest::boundOfAllPoints)
            .holds("0 without one;", PromiseSentencesTest::boundWithoutOne)
            .holds("NONE for another what.", PromiseSentencesTest::boundOtherWhat);
        all.in("Promise 15: told")
            .holds("Commands (what = 0), characters of the text (1), written last (2), edges (3);",
                PromiseSentencesTest::toldCounts)
            .holds("NONE for another what.", PromiseSentencesTest::toldOtherWhat);
        all.in("Promise 16: clear")
            .holds("No drawing, no text;", PromiseSentencesTest::clearDrawingAndText)
            .holds("nothing was written,", PromiseSentencesTest::clearWritten)
            .holds("no square is covered, there are none.", PromiseSentencesTest::clearSquares);
    }

    // ---- a new object, and its text

    private static void answers512Calls() {
        PathTexts paths = new PathTexts();
        Checks.due("call 1", paths.move(0, 0), 1);
        for (int call = 2; call <= 150; call++) {
            Checks.due("call " + call, paths.line(call, -call), call);
        }
        for (int call = 151; call <= 300; call++) {
            Checks.due("call " + call, paths.text(0x2020202020202020L), 8 * (call - 150));
        }
        Checks.due("call 301", paths.read(), 0);
        Checks.due("call 302", paths.move(256, 0), 1);
        Checks.due("call 303", paths.line(512, 0), 2);
        Checks.due("call 304", paths.line(512, 256), 3);
        Checks.due("call 305", paths.line(256, 256), 4);
        for (int call = 306; call < 512; call += 2) {
            Checks.due("call " + call, paths.render(2, 2, call / 2 % 2), 256);
            Checks.due("call " + (call + 1), paths.covered(1, 0), 256);
        }
        Checks.due("call 512", paths.close(), 5);
    }

    private static void newHasNoText() {
        Checks.due("characters", new Paths().told(1), 0);
        Checks.answers("reading nothing", new Paths()::read, 0);
        Checks.answers("the first character", () -> new Paths().text('M'), 1);
    }

    private static void newHasNoDrawing() {
        Paths paths = new Paths();
        Checks.due("commands", paths.told(0), 0);
        Checks.due("edges", paths.told(3), 0);
        Checks.throwsA("command 0", () -> paths.command(0), INDEX);
        Checks.throwsA("number 0, 0", () -> paths.number(0, 0), INDEX);
        Checks.throwsA("no MOVE", paths::close, STATE);
        for (int what = 0; what < 4; what++) {
            Checks.due("bound " + what, paths.bound(what), 0);
        }
        Checks.answers("nothing covers", () -> paths.render(8, 8, 0), 0);
        Checks.answers("nothing to write", paths::write, 0);
        paths.move(1, 1);
        Checks.due("another object has none still", new Paths().told(0), 0);
    }

    private static void newHasNothingWritten() {
        Paths paths = new Paths();
        Checks.due("characters", paths.told(2), 0);
        Checks.throwsA("charAt 0", () -> paths.charAt(0), INDEX);
        paths.move(1, 1);
        Checks.due("characters behind a move", paths.told(2), 0);
        Checks.throwsA("charAt 0 behind a move", () -> paths.charAt(0), INDEX);
    }

    private static void newHasNoSquare() {
        Paths paths = new Paths();
        Checks.throwsA("square 0, 0", () -> paths.covered(0, 0), INDEX);
        Checks.throwsA("square 7, 7", () -> paths.covered(7, 7), INDEX);
        paths.move(1, 1);
        Checks.throwsA("square 0, 0 behind a move", () -> paths.covered(0, 0), INDEX);
        Checks.throwsA("a refused render makes none", () -> paths.render(0, 1, 0), ARGUMENT);
        Checks.throwsA("square 0, 0 behind it", () -> paths.covered(0, 0), INDEX);
    }

    private static void textComesBehind() {
        Paths paths = new Paths();
        Checks.answers("first", () -> paths.text(Checks.packed("M1 2L3 4")), 8);
        Checks.answers("second", () -> paths.text(Checks.packed("0L5 6")), 13);
        Checks.answers("third", () -> paths.text(Checks.packed("Z")), 14);
        Checks.answers("all of it", paths::read, 4);
        Checks.due("in its order", Checks.commands(paths), "M256,512 L768,10240 L1280,1536 Z");
    }

    private static void textLowestFirst() {
        Paths paths = new Paths();
        paths.text('M' | '1' << 8 | ' ' << 16 | (long) '2' << 24 | (long) 'H' << 32 | (long) '3' << 40 | (long) '4' << 48
            | (long) '5' << 56);
        Checks.answers("eight bytes", paths::read, 2);
        Checks.due("the lowest first", Checks.commands(paths), "M256,512 L88320,512");
        Checks.answers("the highest one alone", () -> paths.text(0x7e00000000000000L), 1);
        Checks.answers("is the first then", paths::read, -1);
    }

    private static void textZeroLeftOut() {
        Paths paths = new Paths();
        Checks.answers("only zeros", () -> paths.text(0L), 0);
        Checks.answers("zeros before", () -> paths.text(0x4d00000000000000L), 1);
        Checks.answers("zeros between", () -> paths.text(0x3200002000310000L), 4);
        Checks.answers("zeros behind", () -> paths.text(0x000000000000005aL), 5);
        Checks.answers("are no characters", paths::read, 2);
        Checks.due("the others are", Checks.commands(paths), "M256,512 Z");
    }

    private static void textHowMany() {
        Paths paths = new Paths();
        int have = 0;
        for (int more = 0; more <= 8; more++) {
            long characters = Checks.packed("        ".substring(0, more));
            have += more;
            Checks.answers(more + " more", () -> paths.text(characters), have);
            Checks.due("told then", paths.told(1), have);
        }
        paths.read();
        Checks.answers("behind reading", () -> paths.text('M'), 1);
        paths.clear();
        Checks.answers("behind clear()", () -> paths.text('M'), 1);
    }

    private static void textOtherCharacter() {
        Paths paths = new Paths();
        for (long bad : new long[] {1, 9, 10, 13, 31, 127, 128, 160, 255}) {
            Checks.throwsA("character " + bad, () -> paths.text(bad), ARGUMENT);
            Checks.throwsA("behind others: " + bad, () -> paths.text(bad << 56 | 0x4d2020L), ARGUMENT);
            Checks.throwsA("before others: " + bad, () -> paths.text(bad | 0x4d00L), ARGUMENT);
        }
        Checks.throwsA("all bytes 255", () -> paths.text(-1L), ARGUMENT);
        Checks.throwsA("the least long", () -> paths.text(Long.MIN_VALUE), ARGUMENT);
        Checks.throwsA("the greatest long", () -> paths.text(Long.MAX_VALUE), ARGUMENT);
        Checks.due("none of them came", paths.told(1), 0);
        Checks.answers("32 may be", () -> paths.text(32), 1);
        Checks.answers("126 may be", () -> paths.text(126), 2);
    }

    // ---- reading

    private static void readTextGoes() {
        Paths paths = new Paths();
        Checks.feed(paths, "M1 1");
        Checks.answers("read", paths::read, 1);
        Checks.due("it is gone", paths.told(1), 0);
        Checks.answers("nothing is read again", paths::read, 0);
        Checks.feed(paths, "M1 1L");
        Checks.answers("wrong", paths::read, -6);
        Checks.due("it is gone, too", paths.told(1), 0);
        Checks.answers("another", () -> Checks.readText(paths, "M2 2"), 1);
        Checks.due("has none of it", Checks.commands(paths), "M512,512");
    }

    private static void readDrawing() {
        Paths paths = new Paths();
        paths.move(1, 1);
        paths.line(2, 2);
        Checks.answers("three commands", () -> Checks.readText(paths, "M1 1H2Z"), 3);
        Checks.due("in place of the others", Checks.commands(paths), "M256,256 L512,256 Z");
        Checks.answers("one command", () -> Checks.readText(paths, "M3 3"), 1);
        Checks.due("in place of three", Checks.commands(paths), "M768,768");
        Checks.answers("150 commands", () -> Checks.readText(paths, "M0 0" + "Z".repeat(149)), 150);
        Checks.answers("none", () -> Checks.readText(paths, "(1 0 0 1 0 0)"), 0);
        Checks.due("is an empty drawing", paths.told(0), 0);
        paths.move(1, 1);
        Checks.answers("an empty text", paths::read, 0);
        Checks.due("is an empty drawing", paths.told(0), 0);
        Checks.throwsA("without a command", () -> paths.command(0), INDEX);
    }

    private static void readNoneLessPlace() {
        Checks.due("place 0", Checks.readText(new Paths(), "x"), -1);
        Checks.due("place 1", Checks.readText(new Paths(), " x"), -2);
        Checks.due("place 8", Checks.readText(new Paths(), "        x"), -9);
        Checks.due("place 1199", Checks.readText(new Paths(), " ".repeat(1199) + "x"), -1200);
        Checks.due("place 1200", Checks.readText(new Paths(), "M" + " ".repeat(1199)), -1201);
    }

    private static void readFirstOfNumeral() {
        Checks.wrong("M5000 1", 1);
        Checks.wrong("M  -5000 1", 3);
        Checks.wrong("M1-5000", 2);
        Checks.wrong("M1.5.5000000000", 4);
        Checks.wrong("M1 1234567890", 3);
        Checks.wrong("M1 1Z 12", 6);
        Checks.wrong("M1 1Z-12", 5);
        Checks.wrong("M1 1L1 -.", 7);
        Checks.wrong("12", 0);
    }

    private static void readLetterOrBracket() {
        Checks.wrong("L1 1", 0);
        Checks.wrong("M1 L1 1", 3);
        Checks.wrong("M1 1L2 Z", 7);
        Checks.wrong("M1 1 )", 5);
        Checks.wrong("M1 (1 0 0 1 0 0)", 3);
        Checks.wrong("(1 0 0 1 0 )", 11);
        Checks.wrong("(1 0 0 1 0 0 L1 1)", 13);
        Checks.wrong("(1 0 0 1 0 0".repeat(9), 96);
        Checks.wrong("M1 1 x", 5);
    }

    private static void readNumberTooGreat() {
        Checks.wrong("M4096 0 h 1", 8);
        Checks.wrong("M4096 0 h -1 2", 8);
        Checks.wrong("M4096 0 M 1 1 l 4096 0", 14);
        Checks.wrong("M4096 0C1 1 1 1 1 1c0 0 4096 0 0 0", 19);
        Checks.wrong(" m4096 0 1 0", 1);
        Checks.wrong(" (2 0 0 2 0 0 M 4096 0)", 14);
        Checks.wrong(" (2 0 0 2 0 0 (4096 0 0 1 0 0 M0 0))", 14);
        Checks.wrong("M0 0Q-4096 0 4096 0 T0 0", 20);
        Checks.wrong("M0 0C0 0-4096 0 4096 0 S0 0 0 0", 23);
    }

    private static void readOneTooMany() {
        String full = "M0 0" + "Z".repeat(149);
        Checks.wrong(full + " Z", 154);
        Checks.wrong(full + " M1 1", 154);
        Checks.wrong(full + "(1 0 0 1 0 0 m1 1)", 166);
        Checks.wrong("M0 0 H" + " 1".repeat(150), 5);
        Checks.wrong("M0 0" + "Z".repeat(148) + " l1 1 1 1", 153);
        Checks.wrong("M0 0" + "Z".repeat(147) + " m1 1 1 1 1 1", 152);
    }

    private static void readTextsEnd() {
        Checks.wrong("M", 1);
        Checks.wrong("M1", 2);
        Checks.wrong("M1 ", 3);
        Checks.wrong("M1, , ", 6);
        Checks.wrong("M1 1 2", 6);
        Checks.wrong("M1 1C1 1 1 1 1", 14);
        Checks.wrong("(", 1);
        Checks.wrong("(1 0 0", 6);
        Checks.wrong("(1 0 0 1 0 0M1 1", 16);
        Checks.wrong("(1 0 0 1 0 0M1 1  ", 18);
    }

    private static void readDrawingStays() {
        String[] wrongs = {"x", "M1 1L", "M1 1 2 2 3 3x", "M5000 1", "(1 0 0 1 0 0M9 9", "M9 9)", "M0 0" + "Z".repeat(150)};
        Paths paths = Checks.drawn("M1 2H3C1 1 2 2 3 3Z");
        paths.write();
        paths.render(2, 2, 0);
        String before = Checks.state(paths);
        for (String wrong : wrongs) {
            Checks.due("wrong: " + wrong, Checks.readText(paths, wrong) < 0, true);
            Checks.due("behind " + wrong, Checks.state(paths), before);
        }
        Checks.answers("a line comes behind it", () -> paths.line(5, 5), 5);
        Paths empty = new Paths();
        Checks.readText(empty, "M1 1L");
        Checks.due("no drawing stays none", empty.told(0), 0);
    }

    // ---- commands by calls

    private static void moveComesBehind() {
        Paths paths = new Paths();
        Checks.answers("the first", () -> paths.move(1, -2), 1);
        Checks.answers("the second", () -> paths.move(3, 4), 2);
        Checks.due("both", Checks.commands(paths), "M1,-2 M3,4");
        Checks.readText(paths, "M1 1H2");
        Checks.answers("behind a text's", () -> paths.move(5, 6), 3);
        Checks.due("all", Checks.commands(paths), "M256,256 L512,256 M5,6");
        paths.clear();
        Checks.answers("behind clear()", () -> paths.move(7, 8), 1);
    }

    private static void moveNumberTooGreat() {
        Paths paths = new Paths();
        for (int bad : new int[] {MOST + 1, -MOST - 1, Integer.MAX_VALUE, Integer.MIN_VALUE}) {
            Checks.throwsA("x " + bad, () -> paths.move(bad, 0), ARGUMENT);
            Checks.throwsA("y " + bad, () -> paths.move(0, bad), ARGUMENT);
        }
        Checks.due("none came", paths.told(0), 0);
        Checks.answers("the greatest and least", () -> paths.move(MOST, -MOST), 1);
        Checks.answers("the least and greatest", () -> paths.move(-MOST, MOST), 2);
        Checks.due("came", Checks.commands(paths), "M1048576,-1048576 M-1048576,1048576");
    }

    private static void moveThereAre150() {
        Paths paths = new Paths();
        for (int k = 1; k <= 150; k++) {
            int number = k;
            Checks.answers("move " + k, () -> paths.move(number, -number), k);
        }
        Checks.throwsA("move 151", () -> paths.move(0, 0), TOO_MANY);
        Checks.throwsA("and again", () -> paths.move(0, 0), TOO_MANY);
        Checks.due("still 150", paths.told(0), 150);
        Checks.due("the last one", paths.number(149, 1), -150);
        Checks.throwsA("there is no other", () -> paths.command(150), INDEX);
        paths.clear();
        Checks.answers("behind clear()", () -> paths.move(1, 1), 1);
    }

    private static void likewiseLine() {
        Paths paths = Checks.drawn("M0 0");
        Checks.answers("a LINE", () -> paths.line(1, -2), 2);
        Checks.answers("the greatest", () -> paths.line(MOST, -MOST), 3);
        Checks.due("all", Checks.commands(paths), "M0,0 L1,-2 L1048576,-1048576");
        for (int bad : new int[] {MOST + 1, -MOST - 1, Integer.MAX_VALUE, Integer.MIN_VALUE}) {
            Checks.throwsA("x " + bad, () -> paths.line(bad, 0), ARGUMENT);
            Checks.throwsA("y " + bad, () -> paths.line(0, bad), ARGUMENT);
        }
        for (int k = 4; k <= 150; k++) {
            Checks.answers("line " + k, () -> paths.line(1, 1), k);
        }
        Checks.throwsA("line 151", () -> paths.line(1, 1), TOO_MANY);
    }

    private static void lineNoMoveYet() {
        Paths paths = new Paths();
        Checks.throwsA("a new object", () -> paths.line(1, 1), STATE);
        paths.move(0, 0);
        Checks.answers("behind a MOVE", () -> paths.line(1, 1), 2);
        paths.clear();
        Checks.throwsA("behind clear()", () -> paths.line(1, 1), STATE);
        Checks.readText(paths, "M1 1Z");
        Checks.answers("behind a text's MOVE, and a CLOSE", () -> paths.line(1, 1), 3);
        paths.read();
        Checks.throwsA("behind an empty text", () -> paths.line(1, 1), STATE);
    }

    private static void likewiseCubic() {
        Paths paths = new Paths();
        Checks.throwsA("no MOVE yet", () -> paths.cubic(1, 2, 3, 4, 5, 6), STATE);
        paths.move(0, 0);
        Checks.answers("a CUBIC", () -> paths.cubic(1, -2, 3, -4, 5, -6), 2);
        Checks.answers("the greatest", () -> paths.cubic(MOST, -MOST, MOST, -MOST, -MOST, MOST), 3);
        Checks.due("all", Checks.commands(paths),
            "M0,0 C1,-2,3,-4,5,-6 C1048576,-1048576,1048576,-1048576,-1048576,1048576");
        for (int i = 0; i < 6; i++) {
            for (int bad : new int[] {MOST + 1, -MOST - 1, Integer.MAX_VALUE, Integer.MIN_VALUE}) {
                int[] n = new int[6];
                n[i] = bad;
                Checks.throwsA("number " + i + " " + bad, () -> paths.cubic(n[0], n[1], n[2], n[3], n[4], n[5]), ARGUMENT);
            }
        }
        for (int k = 4; k <= 150; k++) {
            Checks.answers("cubic " + k, () -> paths.cubic(1, 2, 3, 4, 5, 6), k);
        }
        Checks.throwsA("cubic 151", () -> paths.cubic(1, 2, 3, 4, 5, 6), TOO_MANY);
    }

    private static void likewiseClose() {
        Paths paths = new Paths();
        Checks.throwsA("no MOVE yet", paths::close, STATE);
        paths.move(3, 4);
        Checks.answers("a CLOSE", paths::close, 2);
        Checks.answers("and another", paths::close, 3);
        Checks.due("all", Checks.commands(paths), "M3,4 Z Z");
        for (int k = 4; k <= 150; k++) {
            Checks.answers("close " + k, paths::close, k);
        }
        Checks.throwsA("close 151", paths::close, TOO_MANY);
        Checks.due("still 150", paths.told(0), 150);
    }

    private static void commandIs() {
        Paths paths = Checks.drawn("M1 1H2Q1 1 2 2Z");
        for (int k = 0; k < 4; k++) {
            Checks.due("command " + k, paths.command(k), k);
        }
        Checks.throwsA("before the first", () -> paths.command(-1), INDEX);
        Checks.throwsA("behind the last", () -> paths.command(4), INDEX);
        Checks.throwsA("the least int", () -> paths.command(Integer.MIN_VALUE), INDEX);
        Checks.throwsA("the greatest int", () -> paths.command(Integer.MAX_VALUE), INDEX);
        Paths full = Checks.drawn("M0 0" + "Z".repeat(149));
        Checks.due("the last of 150", full.command(149), 3);
        Checks.throwsA("behind 150", () -> full.command(150), INDEX);
        Checks.readText(full, "M1 1");
        Checks.throwsA("of a drawing that is gone", () -> full.command(1), INDEX);
    }

    private static void numberOfIt() {
        Paths paths = Checks.drawn("M1 2L3 4C5 6 7 8 9 10Z");
        int[] counts = {2, 2, 6, 0};
        int next = 256;
        for (int k = 0; k < 4; k++) {
            int command = k;
            for (int i = 0; i < counts[k]; i++) {
                Checks.due("number " + i + " of " + k, paths.number(k, i), next);
                next += 256;
            }
            for (int i : new int[] {-1, counts[k], 6, 256, Integer.MIN_VALUE, Integer.MAX_VALUE}) {
                Checks.throwsA("number " + i + " of " + k, () -> paths.number(command, i), INDEX);
            }
        }
        // 6 k and 6 k + i wrap around to small ones here.
        for (int k : new int[] {-1, 4, 150, 715827883, 1431655766, -715827882, Integer.MIN_VALUE, Integer.MAX_VALUE}) {
            Checks.throwsA("number 0 of " + k, () -> paths.number(k, 0), INDEX);
            Checks.throwsA("number -6 k of " + k, () -> paths.number(k, -6 * k), INDEX);
        }
        Checks.throwsA("a number of the next command", () -> paths.number(0, 6), INDEX);
        Checks.throwsA("a number of the one before", () -> paths.number(1, -6), INDEX);
    }

    // ---- written and covered

    private static void writeHowMany() {
        Paths paths = new Paths();
        Checks.answers("no drawing", paths::write, 0);
        paths.move(0, 0);
        Checks.answers("a MOVE", paths::write, 4);
        paths.line(-128, 128);
        Checks.answers("and a LINE", paths::write, 10);
        paths.close();
        Checks.answers("and a CLOSE", paths::write, 11);
        Checks.answers("again", paths::write, 11);
        Checks.due("all of it", Checks.written(paths), "M0 0L-.5.5Z");
        Checks.due("the drawing stays", paths.told(0), 3);
        Paths full = new Paths();
        int far = -MOST + 1;
        full.move(far, far);
        for (int k = 2; k <= 150; k++) {
            full.cubic(far, far, far, far, far, far);
        }
        Checks.answers("the longest", full::write, 19 + 149 * 55);
        Checks.due("its last character", full.charAt(19 + 149 * 55 - 1), (int) '6');
    }

    private static void charAtWrittenLast() {
        Paths paths = Checks.drawn("M1-2");
        Checks.throwsA("before it is written", () -> paths.charAt(0), INDEX);
        paths.write();
        for (int i = 0; i < 4; i++) {
            Checks.due("character " + i, paths.charAt(i), (int) "M1-2".charAt(i));
        }
        Checks.throwsA("before the first", () -> paths.charAt(-1), INDEX);
        Checks.throwsA("behind the last", () -> paths.charAt(4), INDEX);
        Checks.throwsA("the least int", () -> paths.charAt(Integer.MIN_VALUE), INDEX);
        Checks.throwsA("the greatest int", () -> paths.charAt(Integer.MAX_VALUE), INDEX);
        paths.line(0, 0);
        Checks.due("it stays when the drawing changes", Checks.written(paths), "M1-2");
        Checks.readText(paths, "M3 3");
        Checks.due("and when another is read", Checks.written(paths), "M1-2");
        paths.write();
        Checks.due("the last one", Checks.written(paths), "M3 3");
        paths.read();
        paths.write();
        Checks.throwsA("an empty one", () -> paths.charAt(0), INDEX);
    }

    private static void renderHowMany() {
        Paths paths = Checks.drawn("M-9-9H9V9H-9Z");
        for (int width = 1; width <= 8; width++) {
            for (int height = 1; height <= 8; height++) {
                int columns = width;
                int rows = height;
                Checks.answers(width + " by " + height, () -> paths.render(columns, rows, 0), 256 * width * height);
                Checks.answers("the last square", () -> paths.covered(columns - 1, rows - 1), 256);
                Checks.throwsA("the one beside", () -> paths.covered(columns, 0), INDEX);
                Checks.throwsA("the one below", () -> paths.covered(0, rows), INDEX);
            }
        }
        Checks.due("no drawing", new Paths().render(8, 8, 1), 0);
        Paths changed = Checks.drawn("M0 0H1V1");
        Checks.answers("as it is", () -> changed.render(1, 1, 0), 136);
        changed.line(0, 256);
        Checks.answers("as it is then", () -> changed.render(1, 1, 0), 256);
        Checks.answers("the same again", () -> changed.render(1, 1, 0), 256);
        changed.clear();
        Checks.answers("as it is behind clear()", () -> changed.render(1, 1, 0), 0);
    }

    private static void renderSize() {
        Paths paths = Checks.drawn("M-9-9H9V9H-9Z");
        paths.render(2, 2, 0);
        for (int bad : new int[] {0, 9, -1, -8, 16, 257, Integer.MIN_VALUE, Integer.MAX_VALUE}) {
            Checks.throwsA("width " + bad, () -> paths.render(bad, 1, 0), ARGUMENT);
            Checks.throwsA("height " + bad, () -> paths.render(1, bad, 0), ARGUMENT);
            Checks.throwsA("both " + bad, () -> paths.render(bad, bad, 0), ARGUMENT);
        }
        Checks.answers("the earlier one's square", () -> paths.covered(1, 1), 256);
        Checks.answers("the least", () -> paths.render(1, 1, 0), 256);
        Checks.answers("the greatest", () -> paths.render(8, 8, 0), 16384);
    }

    private static void renderRule() {
        Paths paths = Checks.drawn("M-9-9H9V9H-9Z");
        paths.render(2, 2, 0);
        for (int bad : new int[] {2, 3, -1, -2, 256, 257, Integer.MIN_VALUE, Integer.MAX_VALUE}) {
            Checks.throwsA("rule " + bad, () -> paths.render(1, 1, bad), ARGUMENT);
        }
        Checks.answers("the earlier one's square", () -> paths.covered(1, 1), 256);
        Checks.answers("rule 0", () -> paths.render(1, 1, 0), 256);
        Checks.answers("rule 1", () -> paths.render(1, 1, 1), 256);
    }

    private static void coveredLatest() {
        Paths paths = Checks.drawn("M1 0H3V.5H1ZM0 1H1V2H0Z");
        Checks.throwsA("before render()", () -> paths.covered(0, 0), INDEX);
        paths.render(3, 2, 0);
        int[] want = {0, 128, 128, 256, 0, 0};
        for (int i = 0; i < 6; i++) {
            Checks.due("square " + i % 3 + ", " + i / 3, paths.covered(i % 3, i / 3), want[i]);
        }
        for (int bad : new int[] {-1, 3, 8, 256, Integer.MIN_VALUE, Integer.MAX_VALUE}) {
            Checks.throwsA("x " + bad, () -> paths.covered(bad, 0), INDEX);
            Checks.throwsA("y " + bad, () -> paths.covered(0, bad), INDEX);
        }
        Checks.throwsA("y 2", () -> paths.covered(0, 2), INDEX);
        Checks.throwsA("x 3 of the last row", () -> paths.covered(3, 1), INDEX);
        paths.move(0, 0);
        Checks.answers("as it was, when the drawing changes", () -> paths.covered(1, 0), 128);
        Checks.readText(paths, "M0 0H1V1H0Z");
        Checks.answers("as it was, when another is read", () -> paths.covered(1, 0), 128);
        paths.render(2, 1, 0);
        Checks.answers("the latest", () -> paths.covered(0, 0), 256);
        Checks.answers("the latest", () -> paths.covered(1, 0), 0);
        Checks.throwsA("no square of the one before", () -> paths.covered(2, 0), INDEX);
        Checks.throwsA("no square of the one before", () -> paths.covered(0, 1), INDEX);
    }

    // ---- telling

    private static void bounds(String text, int... want) {
        Paths paths = Checks.drawn(text);
        for (int what = 0; what < 4; what++) {
            Checks.due("bound " + what + " of " + text, paths.bound(what), want[what]);
        }
    }

    private static void boundOfAllPoints() {
        bounds("M3 4", 768, 1024, 768, 1024);
        bounds("M-3-4Z", -768, -1024, -768, -1024);
        bounds("M3 4L-5 6M7-8", -1280, -2048, 1792, 1536);
        bounds("M1 1C-9 2 9 3 2 2", -2304, 256, 2304, 768);
        bounds("M1 1C2 9 3-9 2 2", 256, -2304, 768, 2304);
        bounds("M1 1C2 2 3 3 9-9", 256, -2304, 2304, 768);
        bounds("M4096-4096L-4096 4096", -MOST, -MOST, MOST, MOST);
        bounds("(2 0 0 2 1 0M1 1h-2)", -256, 512, 768, 512);
        Paths paths = Checks.drawn("M3 4L5 6");
        paths.line(-1, 9999);
        Checks.due("least x behind a call", paths.bound(0), -1);
        Checks.due("greatest y behind a call", paths.bound(3), 9999);
    }

    private static void boundWithoutOne() {
        bounds("", 0, 0, 0, 0);
        Paths paths = Checks.drawn("M3 4L5 6");
        paths.clear();
        Paths read = Checks.drawn("M-3-4");
        read.read();
        for (int what = 0; what < 4; what++) {
            Checks.due("bound " + what + " behind clear()", paths.bound(what), 0);
            Checks.due("bound " + what + " behind an empty text", read.bound(what), 0);
        }
    }

    private static void boundOtherWhat() {
        for (int what : OTHER_WHATS) {
            Checks.due("what " + what, Checks.drawn("M3 4L5 6").bound(what), PathTexts.NONE);
            Checks.due("what " + what + " without a point", new Paths().bound(what), PathTexts.NONE);
        }
    }

    private static void toldCounts() {
        Paths paths = Checks.drawn("M0 0L1 1C1 1 2 2 3 3");
        Checks.feed(paths, "M1 1L");
        Checks.due("commands", paths.told(0), 3);
        Checks.due("characters", paths.told(1), 5);
        Checks.due("nothing written", paths.told(2), 0);
        Checks.due("edges", paths.told(3), 18);
        paths.write();
        Checks.due("written", paths.told(2), 20);
        paths.close();
        Checks.due("commands then", paths.told(0), 4);
        Checks.due("written last", paths.told(2), 20);
        Checks.due("edges of a closed one", paths.told(3), 18);
        paths.line(1, 1);
        Checks.due("edges behind a CLOSE", paths.told(3), 20);
        paths.read();
        Checks.due("characters behind reading", paths.told(1), 0);
        Checks.due("commands of the drawing that stays", paths.told(0), 5);
        Checks.feed(paths, " ".repeat(1200));
        Checks.due("the most characters", paths.told(1), 1200);
        Paths full = Checks.drawn("M0 0");
        for (int k = 2; k <= 150; k++) {
            full.cubic(1, 1, 2, 2, 3, 3);
        }
        Checks.due("the most commands", full.told(0), 150);
        Checks.due("the most edges", full.told(3), 149 * 16 + 1);
    }

    private static void toldOtherWhat() {
        Paths paths = Checks.drawn("M3 4L5 6");
        paths.write();
        for (int what : OTHER_WHATS) {
            Checks.due("what " + what, paths.told(what), PathTexts.NONE);
            Checks.due("what " + what + " of a new object", new Paths().told(what), PathTexts.NONE);
        }
    }

    // ---- clear

    /** An object with all that clear() takes away. */
    private static Paths cleared() {
        Paths paths = Checks.drawn("M0 0H1V1H0Z");
        paths.write();
        paths.render(8, 8, 0);
        Checks.feed(paths, "M1 1");
        paths.clear();
        return paths;
    }

    private static void clearDrawingAndText() {
        Paths paths = cleared();
        Checks.due("as new", Checks.state(paths), Checks.state(new Paths()));
        Checks.due("commands", paths.told(0), 0);
        Checks.due("edges", paths.told(3), 0);
        Checks.due("characters", paths.told(1), 0);
        Checks.throwsA("command 0", () -> paths.command(0), INDEX);
        Checks.throwsA("number 0, 0", () -> paths.number(0, 0), INDEX);
        Checks.throwsA("no MOVE", paths::close, STATE);
        Checks.answers("nothing covers", () -> paths.render(1, 1, 0), 0);
        Checks.answers("nothing to read", paths::read, 0);
        Checks.answers("a MOVE again", () -> paths.move(5, 5), 1);
        Checks.due("with its bounds", paths.bound(0), 5);
        paths.clear();
        paths.clear();
        Checks.due("twice", Checks.state(paths), Checks.state(new Paths()));
    }

    private static void clearWritten() {
        Paths paths = cleared();
        Checks.due("characters", paths.told(2), 0);
        Checks.throwsA("charAt 0", () -> paths.charAt(0), INDEX);
        Checks.answers("nothing to write", paths::write, 0);
    }

    private static void clearSquares() {
        Paths paths = cleared();
        for (int i = 0; i < 64; i++) {
            int x = i % 8;
            int y = i / 8;
            Checks.throwsA("square " + x + ", " + y, () -> paths.covered(x, y), INDEX);
        }
        paths.render(1, 1, 0);
        Checks.answers("one again", () -> paths.covered(0, 0), 0);
        Checks.throwsA("and no other", () -> paths.covered(1, 0), INDEX);
    }
}

/** The document's terms of texts and of reading them, sentence by sentence. */
public final class ReadingSentencesTest {
    private static final String SAME = "(1 0 0 1 0 0";
    private static final String NOT_M = "LlHhVvCcSsQqTtZz";

    private ReadingSentencesTest() {
    }

    public static void main(String[] args) {
        sentences().run();
        Checks.end();
    }

    static Sentences sentences() {
        Sentences all = new Sentences().in("Terms");
        addNumerals(all);
        addCommands(all);
        addGroups(all);
        addWrongs(all);
        return all;
    }

    private static void addNumerals(Sentences all) {
        all.holds("A NUMBER counts 1/256 units.", ReadingSentencesTest::numberCountsParts)
            .holds("TEXT has characters 32 .. 126,", ReadingSentencesTest::textHasCharacters)
            .holds("1200 at most.", ReadingSentencesTest::textHas1200AtMost)
            .holds("READING it goes from the left;", ReadingSentencesTest::readingGoesFromTheLeft)
            .holds("blanks (and commas) may stand between all others, and are passed over.",
                ReadingSentencesTest::blanksArePassedOver)
            .holds("A NUMERAL is a sign (+ or -) or none, digits 0 .. 9, and perhaps a point and more digits,",
                ReadingSentencesTest::numeralIs)
            .holds("one digit at least in all;", ReadingSentencesTest::numeralHasOneDigit)
            .holds("it ends with the last character that can be its own (\"1-2\" are two, \"1.5.5\" are 1.5 and .5).",
                ReadingSentencesTest::numeralEnds)
            .holds("It counts for the number next to it,", ReadingSentencesTest::numeralCountsForTheNext)
            .holds("of two the greater one;", ReadingSentencesTest::numeralCountsForTheGreater)
            .holds("if that is not -1048576 .. 1048576,", ReadingSentencesTest::numeralIsTooGreat)
            .holds("or it has more than 9 digits, it is wrong.", ReadingSentencesTest::numeralHasTooManyDigits);
    }

    private static void addCommands(Sentences all) {
        all.holds("M (numbers x, y): a new SUBPATH from there; further pairs are lines.", ReadingSentencesTest::letterM)
            .holds("L (x, y), H (x), V (y): lines.", ReadingSentencesTest::lettersLHV)
            .holds("C (x1, y1, x2, y2, x, y): a CUBIC.", ReadingSentencesTest::letterC)
            .holds("S (x2, y2, x, y): a cubic whose first control point is the second one of the command before, "
                + "turned over the point at hand,", ReadingSentencesTest::letterSBehindCOrS)
            .holds("if that was C or S, else the point at hand.", ReadingSentencesTest::letterSBehindOthers)
            .holds("Q (x1, y1, x, y): a cubic with control points (p + 2 q) / 3 of both ends p, q being x1, y1.",
                ReadingSentencesTest::letterQ)
            .holds("T (x, y): as Q, with q turned over likewise,", ReadingSentencesTest::letterTBehindQOrT)
            .holds("if the command before was Q or T, else the point at hand.", ReadingSentencesTest::letterTBehindOthers)
            .holds("Z: a line back to the subpath's start, which is the point at hand then; CLOSED.",
                ReadingSentencesTest::letterZ)
            .holds("Small letters: their numbers are counted from the point at hand", ReadingSentencesTest::smallLetters)
            .holds("(of M at the text's beginning, or behind a bracket, from 0, 0).", ReadingSentencesTest::smallMFromZero)
            .holds("Each but Z may have its numbers more than once: it is done so often then.",
                ReadingSentencesTest::numbersMoreThanOnce)
            .holds("Behind M (or m) with further pairs, these are L (or l).", ReadingSentencesTest::furtherPairs);
    }

    private static void addGroups(Sentences all) {
        all.holds("A MATRIX a, b, c, d, e, f is at first 256, 0, 0, 256, 0, 0:", ReadingSentencesTest::matrixAtFirst)
            .holds("a point x, y is drawn at (a x + c y) / 256 + e, (b x + d y) / 256 + f.",
                ReadingSentencesTest::pointIsDrawnAt)
            .holds("\"(\" and six numbers: a GROUP up to its \")\",", ReadingSentencesTest::groupUpToItsBracket)
            .holds("eight deep at most,", ReadingSentencesTest::groupsEightDeep)
            .holds("whose matrix is, with A to F of that round it: (A a + C b) / 256, (B a + D b) / 256, "
                + "(A c + C d) / 256, (B c + D d) / 256, (A e + C f) / 256 + E, (B e + D f) / 256 + F.",
                ReadingSentencesTest::matrixOfGroup)
            .holds("Behind a bracket, either one, the next command with a letter is M or m.",
                ReadingSentencesTest::behindBrackets)
            .holds("All divisions are to the nearest number, of two the greater one.", ReadingSentencesTest::divisions);
    }

    private static void addWrongs(Sentences all) {
        all.holds("Wrong is: another character;", ReadingSentencesTest::wrongCharacter)
            .holds("a command that is not M first of all, or behind a bracket;", ReadingSentencesTest::wrongFirstCommand)
            .holds("a numeral where a letter should be,", ReadingSentencesTest::wrongNumeralForLetter)
            .holds("or the other way round;", ReadingSentencesTest::wrongLetterForNumeral)
            .holds("a bracket that is not closed at the end,", ReadingSentencesTest::wrongOpenBracket)
            .holds("or closes none;", ReadingSentencesTest::wrongClosingBracket)
            .holds("a number of a drawn point,", ReadingSentencesTest::wrongNumberOfPoint)
            .holds("or of a matrix, that is not -1048576 .. 1048576;", ReadingSentencesTest::wrongNumberOfMatrix)
            .holds("more than 150 commands that are drawn.", ReadingSentencesTest::wrongManyCommands);
    }

    // ---- numerals

    private static void numberCountsParts() {
        Checks.draws("M1 .00390625", "M256,1");
        Checks.draws("M-2-.00390625", "M-512,-1");
        Checks.draws("M.5.25L100 0", "M128,64 L25600,0");
    }

    private static void textHasCharacters() {
        Paths paths = new Paths();
        for (int place = 0; place < 8; place++) {
            for (long character = 1; character < 256; character++) {
                long one = character << (8 * place);
                boolean mayBe = character >= 32 && character <= 126;
                String want = mayBe ? "1" : "IllegalArgumentException";
                Checks.due("character " + character + " in byte " + place, Checks.answer(() -> paths.text(one)), want);
                Checks.due("characters then", paths.told(1), mayBe ? 1 : 0);
                paths.clear();
            }
        }
    }

    private static void textHas1200AtMost() {
        Paths paths = new Paths();
        Checks.feed(paths, " ".repeat(1193));
        Checks.due("eight more are 1201", Checks.answer(() -> paths.text(0x2020202020202020L)), "UnsupportedOperationException");
        Checks.answers("seven more are 1200", () -> paths.text(0x0020202020202020L), 1200);
        Checks.due("one more", Checks.answer(() -> paths.text(0x2000000000000000L)), "UnsupportedOperationException");
        Checks.answers("none more", () -> paths.text(0L), 1200);
        Checks.answers("1200 blanks", paths::read, 0);
        Checks.feed(paths, " ".repeat(1192));
        Checks.answers("1200 again, the eight bytes full", () -> paths.text(0x2020202020202020L), 1200);
        Checks.draws(" ".repeat(1196) + "M1 2", "M256,512");
        Checks.wrong(" ".repeat(1199) + "x", 1199);
        Checks.wrong(" ".repeat(1199) + "M", 1200);
    }

    private static void readingGoesFromTheLeft() {
        Checks.wrong("M1 1x(", 4);
        Checks.wrong("M1 1(x", 5);
        Checks.wrong("x M5000 1", 0);
        Checks.wrong("M0 0h5000x", 5);
        Checks.wrong("M0 0hx5000", 5);
        Checks.wrong("M0 0)L", 4);
        Checks.wrong("M0 0L)", 5);
        Paths paths = new Paths();
        paths.text('M');
        paths.text('1');
        paths.text('2');
        paths.text(' ');
        paths.text('3');
        Checks.answers("characters that came one by one are one text", paths::read, 1);
        Checks.due("of two numerals", Checks.commands(paths), "M3072,768");
    }

    private static void blanksArePassedOver() {
        Checks.draws("", "");
        Checks.draws(" ", "");
        Checks.draws(",", "");
        Checks.draws(" , ,, ", "");
        Checks.draws(" ,M ,1, ,2, ", "M256,512");
        Checks.draws("M,1,2,,3 , 4", "M256,512 L768,1024");
        Checks.draws("M1 1 , Z , Z ,", "M256,256 Z Z");
        Checks.draws(" , ( , 1 0,0 1,,0 0 , M , 1 1 , ) , M 2 2", "M256,256 M512,512");
        Checks.draws("M1-1L2-2", "M256,-256 L512,-512");
        Checks.draws("M12 3", "M3072,768");
        Checks.draws("M1 23", "M256,5888");
        Checks.draws("M1,23", "M256,5888");
        Checks.wrong(" , x", 3);
        Checks.wrong("M1 2 .5", 7);
        Checks.wrong("M- 1 1", 1);
        Checks.wrong("M1 .,5", 3);
    }

    private static void numeralIs() {
        Checks.draws("M1+1", "M256,256");
        Checks.draws("M+1-1", "M256,-256");
        Checks.draws("M1.5-1.5", "M384,-384");
        Checks.draws("M+1.5+.5", "M384,128");
        Checks.draws("M.5-.5", "M128,-128");
        Checks.draws("M1. -1.", "M256,-256");
        Checks.draws("M0 00", "M0,0");
        Checks.draws("M-0 +0", "M0,0");
        Checks.draws("M0123.75 456.5", "M31680,116864");
        Checks.draws("M789 0.75", "M201984,192");
        Checks.wrong("M--1 1", 1);
        Checks.wrong("M+-1 1", 1);
        Checks.wrong("M1 -+1", 3);
        Checks.wrong("M1 1e1", 4);
        Checks.wrong("M/1 1", 1);
        Checks.wrong("M:1 1", 1);
    }

    private static void numeralHasOneDigit() {
        for (String none : new String[] {"+", "-", ".", "+.", "-."}) {
            Checks.wrong("M" + none, 1);
            Checks.wrong("M" + none + " 1", 1);
            Checks.wrong("M1 " + none, 3);
            Checks.wrong("M1 1 " + none, 5);
            Checks.wrong("M1 1H" + none + "Z", 5);
            Checks.wrong("(1 0 0 1 0 " + none + ")", 11);
        }
        Checks.draws("M.0 -.0", "M0,0");
        Checks.draws("M1 .1", "M256,26");
    }

    private static void numeralEnds() {
        Checks.draws("M1-2", "M256,-512");
        Checks.draws("M1+2", "M256,512");
        Checks.draws("M1.5.5", "M384,128");
        Checks.draws("M1.5-.5", "M384,-128");
        Checks.draws("M.5.5.5.5", "M128,128 L128,128");
        Checks.draws("M-1-2-3-4", "M-256,-512 L-768,-1024");
        Checks.draws("M1.25.5.75-1", "M320,128 L192,-256");
    }

    private static void numeralCountsForTheNext() {
        Checks.draws("M.00195312.00195313", "M0,1");
        Checks.draws("M-.00195312-.00195313", "M0,-1");
        Checks.draws("M.003.004", "M1,1");
        Checks.draws("M.005.006", "M1,2");
        Checks.draws("M9.99804687 9.99804688", "M2559,2560");
        Checks.draws("M-9.99804687-9.99804688", "M-2559,-2560");
        Checks.draws("M999.998046 999.998047", "M255999,256000");
        Checks.draws("M.999999999-.999999999", "M256,-256");
    }

    private static void numeralCountsForTheGreater() {
        Checks.draws("M.001953125-.001953125", "M1,0");
        Checks.draws("M.005859375-.005859375", "M2,-1");
        Checks.draws("M.009765625-.009765625", "M3,-2");
        Checks.draws("M.998046875-.998046875", "M256,-255");
        // Nine digits reach no other half: those behind 1 have ten.
        Checks.wrong("M1.001953125 1", 1);
    }

    private static void numeralIsTooGreat() {
        Checks.draws("M4096-4096", "M1048576,-1048576");
        Checks.draws("M-4096 4096", "M-1048576,1048576");
        Checks.draws("M4096.00195-4096.00195", "M1048576,-1048576");
        Checks.draws("M-4096.001 4096.001", "M-1048576,1048576");
        for (String great : new String[] {"4096.00196", "4096.002", "4096.01", "4097", "5000", "8192", "65536",
            "16777216", "999999999"}) {
            for (String sign : new String[] {"", "+", "-"}) {
                Checks.wrong("M" + sign + great + " 1", 1);
                Checks.wrong("M1 " + sign + great, 3);
                Checks.wrong("(1 0 0 1 0 " + sign + great + "M0 0)", 11);
                Checks.wrong("(" + sign + great + " 0 0 1 0 0M0 0)", 1);
            }
        }
        Checks.wrong("(0 0 0 0 0 0M0 0h4097)", 17);
    }

    private static void numeralHasTooManyDigits() {
        Checks.draws("M000000001-000000001", "M256,-256");
        Checks.draws("M1.00000000-1.00000000", "M256,-256");
        Checks.draws("M.123456789-1234.56789", "M32,-316049");
        Checks.draws("M00000000. .00000000", "M0,0");
        for (String many : new String[] {"0000000001", "1.000000000", ".0000000000", "0.000000000", "1234.567890",
            "000000000.0", "0000000000", "1".repeat(19), "0".repeat(64), "1".repeat(1100)}) {
            for (String sign : new String[] {"", "+", "-"}) {
                Checks.wrong("M" + sign + many + " 1", 1);
                Checks.wrong("M1 " + sign + many, 3);
            }
        }
    }

    // ---- commands

    private static void letterM() {
        Checks.draws("M1 2", "M256,512");
        Checks.draws("M1 2 3 4", "M256,512 L768,1024");
        Checks.draws("M1 2M3 4", "M256,512 M768,1024");
        Checks.draws("M1 2L3 4M5 6L7 8Zl1 1", "M256,512 L768,1024 M1280,1536 L1792,2048 Z L1536,1792");
        Checks.wrong("M", 1);
        Checks.wrong("M1", 2);
        Checks.wrong("M1 2 3", 6);
    }

    private static void lettersLHV() {
        Checks.draws("M1 2L3 4", "M256,512 L768,1024");
        Checks.draws("M1 2H3", "M256,512 L768,512");
        Checks.draws("M1 2V3", "M256,512 L256,768");
        Checks.draws("M1 2L3 4H5V6", "M256,512 L768,1024 L1280,1024 L1280,1536");
        Checks.wrong("M1 2L", 5);
        Checks.wrong("M1 2L3", 6);
        Checks.wrong("M1 2H", 5);
        Checks.wrong("M1 2V", 5);
    }

    private static void letterC() {
        Checks.draws("M0 0C1 2 3 4 5 6", "M0,0 C256,512,768,1024,1280,1536");
        Checks.wrong("M0 0C", 5);
        Checks.wrong("M0 0C1 2 3 4 5", 14);
        Checks.wrong("M0 0C1 2 3 4 5 6 7", 18);
    }

    private static void letterSBehindCOrS() {
        Checks.draws("M0 0C0 0 1 2 4 5S7 7 9 9", "M0,0 C0,0,256,512,1024,1280 C1792,2048,1792,1792,2304,2304");
        Checks.draws("M0 0c0 0 1 2 4 5s7 7 9 9", "M0,0 C0,0,256,512,1024,1280 C1792,2048,2816,3072,3328,3584");
        Checks.draws("M0 0S1 2 4 5S7 7 9 9", "M0,0 C0,0,256,512,1024,1280 C1792,2048,1792,1792,2304,2304");
        Checks.draws("M0 0S1 2 4 5 7 7 9 9", "M0,0 C0,0,256,512,1024,1280 C1792,2048,1792,1792,2304,2304");
        Checks.draws("M0 0s1 2 4 5S7 7 9 9", "M0,0 C0,0,256,512,1024,1280 C1792,2048,1792,1792,2304,2304");
        Checks.draws("(1 0 0 1 3 4M0 0C0 0 1 2 4 5S7 7 9 9)",
            "M768,1024 C768,1024,1024,1536,1792,2304 C2560,3072,2560,2816,3072,3328");
        Checks.wrong("M0 0S1 2 3", 10);
    }

    private static void letterSBehindOthers() {
        String[] others = {"M5 6", "L5 6", "M1 1 5 6", "Q3 3 5 6", "T5 6", "Q1 1 2 2T5 6", "C0 0 1 1 2 2L5 6",
            "M5 6C0 0 1 1 2 2Z", "H5V6", "C0 0 1 1 2 2H5V6", "C0 0 1 1 2 2M5 6", "C0 0 1 1 2 2Q1 1 5 6"};
        for (String other : others) {
            endsWith("M0 0" + other + "S7 8 9 10", " C1280,1536,1792,2048,2304,2560");
        }
    }

    private static void letterQ() {
        Checks.draws("M3 6Q6 9 9 3", "M768,1536 C1280,2048,1792,1792,2304,768");
        // In 1/256: (0 + 2 * 1) / 3, (1 + 2 * 0) / 3 and their like below 0.
        Checks.draws("M0 0Q.004-.004 0 0", "M0,0 C1,-1,1,-1,0,0");
        Checks.draws("M.004-.004Q0 0 .004-.004", "M1,-1 C0,0,0,0,1,-1");
        Checks.draws("M0 .004Q.008.008.012-.012", "M0,1 C1,2,2,0,3,-3");
        Checks.wrong("M0 0Q1 2 3", 10);
    }

    private static void endsWith(String text, String want) {
        String all = Checks.commands(Checks.drawn(text));
        Checks.due("the end of " + text, all.substring(Math.max(0, all.length() - want.length())), want);
    }

    private static void letterTBehindQOrT() {
        Checks.draws("M0 0Q3 6 9 3T12 6", "M0,0 C512,1024,1280,1280,2304,768 C3328,256,3584,512,3072,1536");
        Checks.draws("M0 0q3 6 9 3t3 3", "M0,0 C512,1024,1280,1280,2304,768 C3328,256,3584,512,3072,1536");
        Checks.draws("M0 0Q3 3 6 0T12 0T18 0", "M0,0 C512,512,1024,512,1536,0 C2048,-512,2560,-512,3072,0 "
            + "C3584,512,4096,512,4608,0");
        Checks.draws("M0 0Q3 3 6 0T12 0 18 0", "M0,0 C512,512,1024,512,1536,0 C2048,-512,2560,-512,3072,0 "
            + "C3584,512,4096,512,4608,0");
        Checks.draws("M0 0T3 0T6 0", "M0,0 C0,0,256,0,768,0 C1280,0,1536,0,1536,0");
        Checks.wrong("M0 0Q3 3 6 0T1", 14);
    }

    private static void letterTBehindOthers() {
        String[] others = {"M3 6", "L3 6", "M1 1 3 6", "C0 0 1 1 3 6", "S1 1 3 6", "Q1 1 2 2L3 6", "H3V6", "Q1 1 2 2H3V6",
            "M3 6Q1 1 2 2Z", "Q1 1 2 2M3 6", "Q1 1 2 2S1 1 3 6"};
        for (String other : others) {
            endsWith("M0 0" + other + "T6 9", " C768,1536,1024,1792,1536,2304");
        }
    }

    private static void letterZ() {
        Checks.draws("M1 2L5 6Z", "M256,512 L1280,1536 Z");
        Checks.draws("M1 2L5 6Zl1 1", "M256,512 L1280,1536 Z L512,768");
        Checks.draws("M1 2L5 6zh1", "M256,512 L1280,1536 Z L512,512");
        Checks.draws("M1 2L5 6zm1 1", "M256,512 L1280,1536 Z M512,768");
        Checks.draws("M1 2 5 6 7 8Zl1 1Zl2 2", "M256,512 L1280,1536 L1792,2048 Z L512,768 Z L768,1024");
        Checks.draws("M1 2m3 4l5 5zv1", "M256,512 M1024,1536 L2304,2816 Z L1024,1792");
        Checks.draws("M1 2Z", "M256,512 Z");
        Checks.draws("(2 0 0 2 3 3M1 2L5 6Zl1 1)", "M1280,1792 L3328,3840 Z L1792,2304");
        Paths paths = Checks.drawn("M1 2L5 6Z");
        Checks.due("its kind", paths.command(2), 3);
        Checks.throwsA("it has no number", () -> paths.number(2, 0), IndexOutOfBoundsException.class);
    }

    private static void smallLetters() {
        Checks.draws("M1 2l3 4", "M256,512 L1024,1536");
        Checks.draws("M1 2h3", "M256,512 L1024,512");
        Checks.draws("M1 2v3", "M256,512 L256,1280");
        Checks.draws("M1 2m3 4", "M256,512 M1024,1536");
        Checks.draws("M1 2c1 2 3 4 5 6", "M256,512 C512,1024,1024,1536,1536,2048");
        Checks.draws("M1 2s3 4 5 6", "M256,512 C256,512,1024,1536,1536,2048");
        Checks.draws("M1 2q3 3 6 0", "M256,512 C768,1024,1280,1024,1792,512");
        Checks.draws("M1 2t3 6", "M256,512 C256,512,512,1024,1024,2048");
        Checks.draws("M1 2l-1-2-3-4", "M256,512 L0,0 L-768,-1024");
        Checks.draws("M1 2C9 9 9 9 3 4l1 1", "M256,512 C2304,2304,2304,2304,768,1024 L1024,1280");
    }

    private static void smallMFromZero() {
        Checks.draws("m1 2", "M256,512");
        Checks.draws(" , m-1-2", "M-256,-512");
        Checks.draws("M5 6l1 1" + SAME + "m1 2)", "M1280,1536 L1536,1792 M256,512");
        Checks.draws("M5 6" + SAME + "M7 8)m1 2", "M1280,1536 M1792,2048 M256,512");
        Checks.draws("M5 6" + SAME + ")m1 2", "M1280,1536 M256,512");
        Checks.draws(SAME + "M7 8" + SAME + "m1 2)m3 4)", "M1792,2048 M256,512 M768,1024");
        Checks.draws("(1 0 0 1 3 3m1 2m1 1)", "M1024,1280 M1280,1536");
        Paths paths = Checks.drawn("M5 6");
        Checks.readText(paths, "m1 2");
        Checks.due("not from an earlier text's end", Checks.commands(paths), "M256,512");
    }

    private static void numbersMoreThanOnce() {
        Checks.draws("M0 0L1 2 3 4", "M0,0 L256,512 L768,1024");
        Checks.draws("M0 0l1 2 3 4", "M0,0 L256,512 L1024,1536");
        Checks.draws("M0 0H1 2 3", "M0,0 L256,0 L512,0 L768,0");
        Checks.draws("M0 0h1 2 3", "M0,0 L256,0 L768,0 L1536,0");
        Checks.draws("M0 0V1 2", "M0,0 L0,256 L0,512");
        Checks.draws("M0 0v1 2", "M0,0 L0,256 L0,768");
        Checks.draws("M0 0C1 1 2 2 3 3 4 4 5 5 6 6", "M0,0 C256,256,512,512,768,768 C1024,1024,1280,1280,1536,1536");
        Checks.draws("M0 0c1 1 2 2 3 3 4 4 5 5 6 6", "M0,0 C256,256,512,512,768,768 C1792,1792,2048,2048,2304,2304");
        Checks.draws("M0 0S1 1 2 2 4 4 5 5", "M0,0 C0,0,256,256,512,512 C768,768,1024,1024,1280,1280");
        Checks.draws("M0 0s1 1 2 2 4 4 5 5", "M0,0 C0,0,256,256,512,512 C768,768,1536,1536,1792,1792");
        Checks.draws("M0 0Q3 0 3 3 0 3 0 0", "M0,0 C512,0,768,256,768,768 C256,768,0,512,0,0");
        Checks.draws("M0 0q3 0 3 3-3 0-3-3", "M0,0 C512,0,768,256,768,768 C256,768,0,512,0,0");
        Checks.draws("M0 0T3 0 6 0", "M0,0 C0,0,256,0,768,0 C1280,0,1536,0,1536,0");
        Checks.draws("M0 0t3 0 3 0", "M0,0 C0,0,256,0,768,0 C1280,0,1536,0,1536,0");
        Checks.draws("M0 0L+1+2-3-4 .5.5 5 6", "M0,0 L256,512 L-768,-1024 L128,128 L1280,1536");
        Checks.draws("M0 0H1+1", "M0,0 L256,0 L256,0");
        Checks.draws("M0 0h1,+1,-1,.5,0", "M0,0 L256,0 L512,0 L256,0 L384,0 L384,0");
        Checks.draws("M0 0+1+1", "M0,0 L256,256");
        Checks.wrong("M0 0Z1", 5);
        Checks.wrong("M0 0z 1 1", 6);
        Checks.wrong("M0 0L1 2 3", 10);
        Checks.wrong("M0 0L1 2 3Z", 10);
        Checks.wrong("M0 0C1 1 2 2 3 3 4", 18);
    }

    private static void furtherPairs() {
        Checks.draws("M1 2 3 4 5 6", "M256,512 L768,1024 L1280,1536");
        Checks.draws("m1 2 3 4 5 6", "M256,512 L1024,1536 L2304,3072");
        Checks.draws("M9 9m1 2 3 4", "M2304,2304 M2560,2816 L3328,3840");
        Checks.draws("M1 2 3 4Zl1 1", "M256,512 L768,1024 Z L512,768");
        Checks.draws("m1 2 3 4M5 6m1 1", "M256,512 L1024,1536 M1280,1536 M1536,1792");
        Checks.wrong("M1 2 3", 6);
        Checks.wrong("m1 2 3 4 5", 10);
    }

    // ---- groups

    private static void matrixAtFirst() {
        Checks.draws("M3 4L-5-6", "M768,1024 L-1280,-1536");
        Checks.draws("(2 3 5 7 11 13)M3 4", "M768,1024");
        Checks.draws("(2 3 5 7 11 13M1 0)M3 4", "M3328,4096 M768,1024");
        Checks.draws("(2 3 5 7 11 13)(1 0 0 1 0 0M3 4)", "M768,1024");
        Paths paths = new Paths();
        Checks.readText(paths, "(2 0 0 2 1 1M3 4");
        Checks.readText(paths, "M3 4");
        Checks.due("behind a text that left a group open", Checks.commands(paths), "M768,1024");
    }

    private static void pointIsDrawnAt() {
        Checks.draws("(2 3 5 7 11 13M1 0L0 1 0 0 10 100)", "M3328,4096 L4096,5120 L2816,3328 L135936,190208");
        Checks.draws("(2 3 5 7 11 13M0 0C1 0 0 1-1-1)", "M2816,3328 C3328,4096,4096,5120,1024,768");
        Checks.draws("(0 1-1 0 0 0M1 2h1v1)", "M-512,256 L-512,512 L-768,512");
        Checks.draws("(0 0 0 0 3 4M1 2h1)", "M768,1024 L768,1024");
        // One division of the sum, not one of each part: (128 + 128) / 256.
        Checks.draws("(.5 0 .5 0 0 0M.00390625.00390625)", "M1,0");
        Checks.draws("(0 .5 0 .5 0 0M.00390625.00390625)", "M0,1");
        Checks.draws("(1 0 0 1 4096-4096M-4096 4096)", "M0,0");
    }

    private static void groupUpToItsBracket() {
        Checks.draws(SAME + ")", "");
        Checks.draws("(2 0 0 2 0 0M1 1)M1 1", "M512,512 M256,256");
        Checks.draws("(2 0 0 2 0 0(3 0 0 3 0 0M1 1)M1 1)M1 1", "M1536,1536 M512,512 M256,256");
        Checks.draws("(2 0 0 2 0 0(3 0 0 3 0 0)M1 1)M1 1", "M512,512 M256,256");
        Checks.draws("(2 0 0 2 0 0)(3 0 0 3 0 0M1 1)", "M768,768");
        Checks.draws("(-1-.5-2-.25.5.5M1 1)", "M-640,-64");
        Checks.wrong("(", 1);
        Checks.wrong("(1 0 0 1 0", 10);
        Checks.wrong("(1 0 0 1 0)", 10);
        Checks.wrong("(1 0 0 1 0M1 1)", 10);
        Checks.wrong("()", 1);
        Checks.wrong("(1 0 0 1 0 0 0M1 1)", 13);
    }

    private static void groupsEightDeep() {
        String step = "(1 0 0 1 1 0";
        Checks.draws(step.repeat(8) + "M0 0" + ")".repeat(8), "M2048,0");
        Checks.draws(step.repeat(8) + ")" + step + "M0 0" + ")".repeat(8), "M2048,0");
        Checks.draws((step + "M0 0)").repeat(9), "M256,0" + " M256,0".repeat(8));
        Checks.draws((step.repeat(8) + ")".repeat(8)).repeat(2) + "M0 0", "M0,0");
        Checks.wrong(step.repeat(9) + ")".repeat(9), 96);
        Checks.wrong(step.repeat(8) + "M0 0" + step + "M0 0" + ")".repeat(9), 100);
        Checks.wrong(step.repeat(20), 96);
        // From the left, the ninth bracket is seen before what stands behind it.
        Checks.wrong(step.repeat(8) + "(x", 96);
        Checks.wrong(step.repeat(8) + "(", 96);
        Paths paths = new Paths();
        Checks.readText(paths, step.repeat(8));
        Checks.answers("an earlier text's groups count not", () -> Checks.readText(paths, step.repeat(8) + ")".repeat(8)), 0);
    }

    private static void matrixOfGroup() {
        Checks.draws("(2 3 5 7 11 13(1 2 3 4 5 6M1 0L0 1 0 0))", "M16128,22272 L19712,27392 L13056,17920");
        Checks.draws("(1 0 0 1 1 2(2 0 0 2 0 0(1 0 0 1 3 4M0 0)))", "M1792,2560");
        // The matrices are multiplied first: 128 * 1 / 256 is 1, and 100 * 1 stays 100.
        Checks.draws("(.5 0 0 .5 0 0(.00390625 0 0 .00390625 0 0M100 100))", "M100,100");
        Checks.draws("(0 .5 .5 0 0 0(0 .00390625 .00390625 0 0 0M100 100))", "M100,100");
        Checks.draws("(.5 0 0 .5 0 0(1 0 0 1 .00390625 .00390625M0 0))", "M1,1");
        Checks.draws("(1 0 0 1 4096-4096(1 0 0 1-4096 4096M1 1))", "M256,256");
        // One division of each sum: 128 / 256 + 128 / 256 is 1, not 2.
        Checks.draws("(.5 .5 .5 .5 0 0(.00390625 .00390625 0 0 0 0M100 0))", "M100,100");
        Checks.draws("(.5 .5 .5 .5 0 0(0 0 .00390625 .00390625 0 0M0 100))", "M100,100");
        Checks.draws("(.5 .5 .5 .5 0 0(0 0 0 0 .00390625 .00390625M0 0))", "M1,1");
    }

    private static void behindBrackets() {
        for (char letter : NOT_M.toCharArray()) {
            Checks.wrong("M9 9" + SAME + letter + "1 1 1 1 1 1)", 16);
            Checks.wrong("M9 9" + SAME + "M1 1)" + letter + "1 1 1 1 1 1", 21);
            Checks.wrong("M9 9" + SAME + ")" + letter + "1 1 1 1 1 1", 17);
            Checks.wrong(SAME + SAME + letter + "1 1 1 1 1 1))", 24);
            Checks.wrong(SAME + SAME + "M1 1)" + letter + "1 1 1 1 1 1)", 29);
        }
        Checks.draws(SAME + "M1 1L2 2)", "M256,256 L512,512");
        Checks.draws(SAME + "m1 1l2 2)M1 1l1 1", "M256,256 L768,768 M256,256 L512,512");
        Checks.draws(SAME + ")" + SAME + SAME + ")M1 1)m1 1", "M256,256 M256,256");
        Checks.draws("M1 1" + SAME + ")", "M256,256");
    }

    private static void divisions() {
        Checks.draws("(.5 0 0 .5 0 0M.00390625-.00390625L.01171875-.01171875)", "M1,0 L2,-1");
        Checks.draws("(.25 0 0 .25 0 0M.00390625-.00390625L.01171875-.01171875)", "M0,0 L1,-1");
        Checks.draws("(.5 0 0 .5 0 0(.00390625 0 0 -.00390625 0 0M100 100))", "M100,0");
        Checks.draws("(.5 0 0 .5 0 0(0 .01171875 -.01171875 0 0 0M100 0L0 100))", "M0,200 L-100,0");
        Checks.draws("(.5 0 0 .5 0 0(1 0 0 1 .00390625 -.00390625M0 0))", "M1,0");
        Checks.draws("(.5 0 0 .5 0 0(1 0 0 1 .01171875 -.01171875M0 0))", "M2,-1");
        Checks.draws("M0 0Q.004-.004.004-.004", "M0,0 C1,-1,1,-1,1,-1");
        Checks.draws("M0 0Q.008-.008 0 0", "M0,0 C1,-1,1,-1,0,0");
        curvesToTheNearest();
    }

    /** A cubic's points are whole numbers: drawn as lines, those cover what the cubic does. */
    private static void curvesToTheNearest() {
        int[][] curves = {{0, 0, 301, 12, -77, 250, 203, 255}, {255, 3, -301, 12, 377, 251, -3, 251},
            {-5, -7, 3, 901, 250, -601, 251, 263}, {24, 8, 21, 24, 27, 40, 28, 261}, {8, 8, 4, 90, 12, 170, 4, 248},
            // One with a number half way between two below 0, which changes what is covered.
            {-7, 290, -26, -24, -13, 281, 14, -59}};
        for (int[] curve : curves) {
            Checks.due("cubic to " + curve[6] + ", " + curve[7],
                DrawingSentencesTest.cubicAndSides(curve), DrawingSentencesTest.sixteenLinesAndSides(curve));
        }
    }

    // ---- wrong texts

    private static void wrongCharacter() {
        String mayBe = " ,.+-()0123456789MmLlHhVvCcSsQqTtZz";
        for (char other = 33; other <= 126; other++) {
            if (mayBe.indexOf(other) < 0) {
                Checks.wrong("" + other, 0);
                Checks.wrong("M" + other, 1);
                Checks.wrong("M1" + other, 2);
                Checks.wrong("M1 1" + other, 4);
                Checks.wrong("M1 1Z" + other, 5);
                Checks.wrong("(" + other, 1);
                Checks.wrong(SAME + other, 12);
                Checks.wrong(SAME + ")" + other, 13);
            }
        }
    }

    private static void wrongFirstCommand() {
        for (char letter : NOT_M.toCharArray()) {
            Checks.wrong("" + letter, 0);
            Checks.wrong(letter + "1 1 1 1 1 1", 0);
            Checks.wrong(" , " + letter + "1 1 1 1 1 1M1 1", 3);
            Checks.wrong(SAME + letter + "1 1 1 1 1 1)", 12);
            Checks.wrong("M1 1" + SAME + ") " + letter + "1 1 1 1 1 1", 18);
        }
        Paths paths = Checks.drawn("M1 1");
        Checks.answers("an earlier text's M counts not", () -> Checks.readText(paths, "L2 2"), -1);
        paths.move(5, 5);
        Checks.answers("nor does move()", () -> Checks.readText(paths, "L2 2"), -1);
    }

    private static void wrongNumeralForLetter() {
        for (String numeral : new String[] {"1", "-1", "+1", ".5", "0"}) {
            Checks.wrong(numeral, 0);
            Checks.wrong(" " + numeral + " 1", 1);
            Checks.wrong("M1 1Z" + numeral, 5);
            Checks.wrong("M1 1z " + numeral + " 1", 6);
            Checks.wrong(SAME + " " + numeral + "M1 1)", 13);
            Checks.wrong(SAME + ")" + numeral, 13);
        }
    }

    private static void wrongLetterForNumeral() {
        for (char letter : "MmLlHhVvCcSsQqTtZz()".toCharArray()) {
            Checks.wrong("M" + letter, 1);
            Checks.wrong("M1" + letter, 2);
            Checks.wrong("M1 1 1 " + letter, 7);
            Checks.wrong("M1 1L" + letter, 5);
            Checks.wrong("M1 1H" + letter, 5);
            Checks.wrong("M1 1C1 1 1 1 1 " + letter, 15);
            Checks.wrong("M1 1S1 1 1 " + letter, 11);
            Checks.wrong("M1 1Q1 1 1 " + letter, 11);
            Checks.wrong("M1 1T1" + letter, 6);
            Checks.wrong("(" + letter, 1);
            Checks.wrong("(1 0 0 1 0" + letter, 10);
        }
    }

    private static void wrongOpenBracket() {
        Checks.wrong(SAME, 12);
        Checks.wrong(SAME + " , ", 15);
        Checks.wrong(SAME + "M1 1", 16);
        Checks.wrong(SAME + SAME + "M1 1)", 29);
        Checks.wrong(SAME + ")" + SAME, 25);
        Checks.draws(SAME + SAME + "M1 1))", "M256,256");
    }

    private static void wrongClosingBracket() {
        Checks.wrong(")", 0);
        Checks.wrong(" ,)", 2);
        Checks.wrong("M1 1)", 4);
        Checks.wrong(SAME + "))", 13);
        Checks.wrong(SAME + "M1 1)M1 1)", 21);
        Checks.wrong("M1 1)" + SAME, 4);
    }

    private static void wrongNumberOfPoint() {
        Checks.draws("M4096-4096h-4096-4096v4096 4096",
            "M1048576,-1048576 L0,-1048576 L-1048576,-1048576 L-1048576,0 L-1048576,1048576");
        Checks.wrong("M4096 0h.00390625", 7);
        Checks.wrong("M-4096 0h-.00390625", 8);
        Checks.wrong("M0 4096v.00390625", 7);
        Checks.wrong("M0-4096v-.00390625", 7);
        Checks.wrong("M4096 4096l-1 .00390625", 10);
        Checks.wrong("M4096 4096 m.00390625-1", 11);
        Checks.wrong("M0 0m4096 0 .00390625 0", 4);
        Checks.draws("M2048 0l2048 0", "M524288,0 L1048576,0");
        for (int i = 0; i < 6; i++) {
            String before = " 0".repeat(i);
            String behind = " 0".repeat(5 - i);
            Checks.wrong("M4096 4096c" + before + " .00390625" + behind, 10);
            Checks.wrong("M-4096-4096c" + before + "-.00390625" + behind, 11);
        }
        wrongNumberOfCurve();
        wrongNumberInGroup();
    }

    private static void wrongNumberOfCurve() {
        Checks.draws("M0 0C0 0 1904 0 3000 0S0 0 0 0", "M0,0 C0,0,487424,0,768000,0 C1048576,0,0,0,0,0");
        Checks.wrong("M0 0C0 0 1903.99609 0 3000 0S0 0 0 0", 28);
        Checks.wrong("M0 0C0 0 0-1903.99609 0-3000S0 0 0 0", 28);
        // q itself is no drawn point: 4100 is beyond, (4000 + 2 * 4100) / 3 is not.
        Checks.draws("M0 0Q3900 0 4000 0T0 0",
            "M0,0 C665600,0,1006933,0,1024000,0 C1041067,0,699733,0,0,0");
        Checks.wrong("M0 0Q3900 0 4000 0T4096 0", 18);
        Checks.wrong("M0 0Q-4096 0 4096 0T0 0", 19);
    }

    private static void wrongNumberInGroup() {
        Checks.draws("(2 0 0 2 0 0M2048-2048)", "M1048576,-1048576");
        Checks.wrong("(2 0 0 2 0 0M2048.00390 0)", 12);
        Checks.wrong("(2 0 0 2 0 0M0-2048.00390)", 12);
        Checks.wrong("(2 0 0 2 0 0M2048 0h1)", 19);
        Checks.draws("(1 0 0 1 1 0M4095 0)", "M1048576,0");
        Checks.wrong("(1 0 0 1 1 0M4095.00391 0)", 12);
        Checks.wrong("(4096 4096 4096 4096 4096 4096M4096 4096)", 30);
        Checks.wrong("(4096 4096 4096 4096 4096 4096M-4096-4096)", 30);
        // Before the matrix a point may be beyond, if it is drawn within.
        Checks.draws("(.5 0 0 .5 0 0M4096 0h4096)", "M524288,0 L1048576,0");
        Checks.wrong("(.5 0 0 .5 0 0M4096 0h4096 1)", 21);
        Checks.draws("(.5 0 0 .5 0 0M4096 0h4096z)", "M524288,0 L1048576,0 Z");
    }

    private static void wrongNumberOfMatrix() {
        Checks.draws("(4096 0 0-4096 4096-4096M0 0)", "M1048576,-1048576");
        Checks.draws("(2 0 0 2 0 0(2048-2048 2048-2048 2048-2048M0 0))", "M1048576,-1048576");
        for (int i = 0; i < 6; i++) {
            String inner = " 0".repeat(i) + " 2048.00391" + " 0".repeat(5 - i);
            Checks.wrong("(2 0 0 2 0 0(" + inner + "M0 0))", 12);
            Checks.wrong("(-2 0 0-2 0 0(" + inner + "M0 0))", 13);
            Checks.wrong("(2 0 0 2 0 0(" + inner + "))", 12);
        }
        Checks.draws("(1 0 0 1 4095 0(1 0 0 1 1 0M0 0))", "M1048576,0");
        Checks.wrong("(1 0 0 1 4095 0(1 0 0 1 1.00391 0M0 0))", 15);
        Checks.wrong("(1 0 0 1 0-4095(1 0 0 1 0-1.00391M0 0))", 15);
        Checks.wrong("(4096 4096 4096 4096 0 0(4096 4096 4096 4096 4096 4096))", 24);
    }

    private static void wrongManyCommands() {
        Checks.draws("M0 0" + "Z".repeat(149), "M0,0" + " Z".repeat(149));
        Checks.draws("M0 0H" + " 1".repeat(149), "M0,0" + " L256,0".repeat(149));
        Checks.draws("M" + " 1 1".repeat(150), "M256,256" + " L256,256".repeat(149));
        Checks.wrong("M0 0" + "Z".repeat(150), 153);
        Checks.wrong("M0 0" + "Z".repeat(1000), 153);
        Checks.wrong("M0 0H" + " 1".repeat(150), 4);
        Checks.wrong("M" + " 1 1".repeat(151), 0);
        Checks.wrong("M0 0" + "Z".repeat(149) + "M1 1", 153);
        Checks.wrong("M0 0" + "Z".repeat(149) + "C1 1 1 1 1 1", 153);
        Checks.draws("M0 0" + "Z".repeat(149) + (SAME + ")").repeat(80), "M0,0" + " Z".repeat(149));
        Checks.wrong(SAME + "M0 0" + "Z".repeat(149) + ")" + "M0 0", 166);
        Paths paths = Checks.drawn("M0 0" + "Z".repeat(149));
        Checks.answers("an earlier drawing's count not", () -> Checks.readText(paths, "M0 0" + "Z".repeat(149)), 150);
    }
}

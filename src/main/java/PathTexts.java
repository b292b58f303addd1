import java.util.Arrays;

/** Drawings as texts of commands: read into points, written again, and told by what they cover. */
public final class PathTexts {
    public static final int NONE = -1;

    private static final int MOVE = 0;
    private static final int LINE = 1;
    private static final int CUBIC = 2;
    private static final int CLOSE = 3;

    private static final int UNIT = 256;
    private static final long GREATEST_NUMBER = 1048576;
    private static final int MOST_CHARACTERS = 1200;
    private static final int MOST_COMMANDS = 150;
    private static final int MOST_NUMBERS = 6;
    private static final int MOST_DIGITS = 9;
    private static final int MOST_DEPTH = 8;
    // A letter, and six numerals like "-4095.996", or as long with a blank before them.
    private static final int MOST_WRITTEN = MOST_COMMANDS * (1 + MOST_NUMBERS * 9);
    // 1/1000 is less than half of 1/256, so three digits always find a numeral.
    private static final int MOST_DIGITS_BEHIND = 3;
    private static final int MOST_SIZE = 8;
    private static final int POINTS_A_SIDE = 16;
    private static final int MOST_COLUMNS = MOST_SIZE * POINTS_A_SIDE;
    private static final int EDGES_OF_CUBIC = 16;
    private static final int WHOLE_OF_CURVE = 4096;

    private static final long[] TENS = {
        1L, 10L, 100L, 1000L, 10000L, 100000L, 1000000L, 10000000L, 100000000L, 1000000000L
    };

    private final Row text;
    private final Row written;
    private final Reader reader;
    private final Cover cover;
    private final long[] given;
    private Drawing drawing;
    private Drawing spare;

    public PathTexts() {
        text = new Row(MOST_CHARACTERS);
        written = new Row(MOST_WRITTEN);
        reader = new Reader(text);
        cover = new Cover();
        given = new long[MOST_NUMBERS];
        drawing = new Drawing();
        spare = new Drawing();
    }

    public int text(long characters) throws IllegalArgumentException, UnsupportedOperationException {
        int more = 0;
        for (int i = 0; i < 8; i++) {
            int character = byteOf(characters, i);
            if (character != 0) {
                if (character < 32 || character > 126) {
                    throw new IllegalArgumentException("a character is not 32 .. 126");
                }
                more++;
            }
        }
        if (text.length + more > MOST_CHARACTERS) {
            throw new UnsupportedOperationException("the text would be too long");
        }
        for (int i = 0; i < 8; i++) {
            int character = byteOf(characters, i);
            if (character != 0) {
                text.put(character);
            }
        }
        return text.length;
    }

    public int read() {
        int wrong = reader.placeOfWrong(spare);
        text.length = 0;
        if (wrong != NONE) {
            return NONE - wrong;
        }
        Drawing before = drawing;
        drawing = spare;
        spare = before;
        return drawing.count;
    }

    public int move(int x, int y) throws IllegalArgumentException, UnsupportedOperationException {
        given[0] = x;
        given[1] = y;
        return addGiven(MOVE);
    }

    public int line(int x, int y)
            throws IllegalArgumentException, IllegalStateException, UnsupportedOperationException {
        given[0] = x;
        given[1] = y;
        return addGiven(LINE);
    }

    public int cubic(int x1, int y1, int x2, int y2, int x, int y)
            throws IllegalArgumentException, IllegalStateException, UnsupportedOperationException {
        given[0] = x1;
        given[1] = y1;
        given[2] = x2;
        given[3] = y2;
        given[4] = x;
        given[5] = y;
        return addGiven(CUBIC);
    }

    public int close() throws IllegalStateException, UnsupportedOperationException {
        return addGiven(CLOSE);
    }

    public int command(int k) throws IndexOutOfBoundsException {
        if (!drawing.has(k)) {
            throw new IndexOutOfBoundsException("no such command");
        }
        return drawing.kinds[k];
    }

    public int number(int k, int i) throws IndexOutOfBoundsException {
        if (!drawing.has(k) || i < 0 || i >= numbersOf(drawing.kinds[k])) {
            throw new IndexOutOfBoundsException("no such number");
        }
        return drawing.numbers[k * MOST_NUMBERS + i];
    }

    public int write() {
        Writer.writeDrawing(drawing, written);
        return written.length;
    }

    public int charAt(int i) throws IndexOutOfBoundsException {
        if (i < 0 || i >= written.length) {
            throw new IndexOutOfBoundsException("no such character");
        }
        return written.at(i);
    }

    public int render(int width, int height, int rule) throws IllegalArgumentException {
        if (width < 1 || width > MOST_SIZE || height < 1 || height > MOST_SIZE) {
            throw new IllegalArgumentException("a size is not 1 .. 8");
        }
        if (rule != 0 && rule != 1) {
            throw new IllegalArgumentException("the rule is not 0 or 1");
        }
        return cover.coverSquares(drawing, width, height, rule);
    }

    public int covered(int x, int y) throws IndexOutOfBoundsException {
        if (x < 0 || x >= cover.width || y < 0 || y >= cover.height) {
            throw new IndexOutOfBoundsException("no such square");
        }
        return cover.squares[y * MOST_SIZE + x];
    }

    public int bound(int what) {
        return what < 0 || what > 3 ? NONE : drawing.extreme(what % 2, what >= 2);
    }

    public int told(int what) {
        switch (what) {
            case 0:
                return drawing.count;
            case 1:
                return text.length;
            case 2:
                return written.length;
            case 3:
                return drawing.edges();
            default:
                return NONE;
        }
    }

    public void clear() {
        text.length = 0;
        written.length = 0;
        drawing.count = 0;
        cover.width = 0;
        cover.height = 0;
    }

    private int addGiven(int kind) {
        if (!areNumbers(given, numbersOf(kind))) {
            throw new IllegalArgumentException("a number is not -1048576 .. 1048576");
        }
        if (kind != MOVE && drawing.count == 0) {
            throw new IllegalStateException("there is no MOVE yet");
        }
        if (!drawing.add(kind, given)) {
            throw new UnsupportedOperationException("there are 150 commands");
        }
        return drawing.count;
    }

    private static int byteOf(long bytes, int i) {
        return (int) (bytes >>> (8 * i)) & 255;
    }

    private static int numbersOf(int kind) {
        switch (kind) {
            case MOVE:
            case LINE:
                return 2;
            case CUBIC:
                return 6;
            default:
                return 0;
        }
    }

    private static boolean isNumber(long number) {
        return number >= -GREATEST_NUMBER && number <= GREATEST_NUMBER;
    }

    private static boolean areNumbers(long[] row, int count) {
        for (int i = 0; i < count && i < row.length; i++) {
            if (!isNumber(row[i])) {
                return false;
            }
        }
        return true;
    }

    /** The division of the document: to the nearest number, of two the greater one. */
    private static long nearest(long dividend, long divisor) {
        return divisor < 1 ? 0 : Math.floorDiv(2 * dividend + divisor, 2 * divisor);
    }

    /** Characters in a row that is made once. */
    private static final class Row {
        final char[] characters;
        int length;

        Row(int most) {
            characters = new char[most < 0 ? 0 : most];
        }

        void put(int character) {
            if (length >= 0 && length < characters.length) {
                characters[length] = (char) character;
                length++;
            }
        }

        /** The character at a place, or 0 where there is none. */
        char at(int place) {
            return place >= 0 && place < length && place < characters.length ? characters[place] : 0;
        }
    }

    /** Commands that are drawn, each with six places for its numbers. */
    private static final class Drawing {
        final int[] kinds = new int[MOST_COMMANDS];
        final int[] numbers = new int[MOST_COMMANDS * MOST_NUMBERS];
        int count;

        boolean has(int k) {
            return k >= 0 && k < count && k < MOST_COMMANDS;
        }

        /** Puts a command behind the others, if there is room and its numbers may be. */
        boolean add(int kind, long[] row) {
            int needs = numbersOf(kind);
            if (count < 0 || count >= MOST_COMMANDS || row.length < needs || !areNumbers(row, needs)) {
                return false;
            }
            for (int i = 0; i < needs; i++) {
                numbers[count * MOST_NUMBERS + i] = (int) row[i];
            }
            kinds[count] = kind;
            count++;
            return true;
        }

        int extreme(int axis, boolean greatest) {
            int found = 0;
            boolean none = true;
            for (int k = 0; k < MOST_COMMANDS && k < count; k++) {
                for (int i = axis; i < numbersOf(kinds[k]); i += 2) {
                    int number = numbers[k * MOST_NUMBERS + i];
                    if (none || (greatest ? number > found : number < found)) {
                        found = number;
                        none = false;
                    }
                }
            }
            return found;
        }

        int edges() {
            int edges = 0;
            boolean open = false;
            for (int k = 0; k < MOST_COMMANDS && k < count; k++) {
                if (kinds[k] == LINE || kinds[k] == CUBIC) {
                    edges += kinds[k] == LINE ? 1 : EDGES_OF_CUBIC;
                    open = true;
                } else {
                    edges += open ? 1 : 0;
                    open = false;
                }
            }
            return open ? edges + 1 : edges;
        }
    }

    /** The matrices of the groups that are open, the innermost one last. */
    private static final class Matrices {
        final long[] rows = new long[(MOST_DEPTH + 1) * MOST_NUMBERS];
        int depth;

        void startOver() {
            depth = 0;
            Arrays.fill(rows, 0L);
            rows[0] = UNIT;
            rows[3] = UNIT;
        }

        boolean isFull() {
            return depth < 0 || depth >= MOST_DEPTH;
        }

        /** Opens a group with a matrix of its own, if that has no number too great. */
        boolean open(long[] own) {
            if (isFull() || own.length < MOST_NUMBERS) {
                return false;
            }
            int inner = (depth + 1) * MOST_NUMBERS;
            boolean allMayBe = true;
            for (int i = 0; i < MOST_NUMBERS; i += 2) {
                // The last pair is a point to be drawn; the others turn and have no shift.
                boolean shifted = i == 4;
                rows[inner + i] = across(own[i], own[i + 1], 0, shifted);
                rows[inner + i + 1] = across(own[i], own[i + 1], 1, shifted);
                allMayBe = allMayBe && isNumber(rows[inner + i]) && isNumber(rows[inner + i + 1]);
            }
            depth++;
            return allMayBe;
        }

        boolean shut() {
            if (depth <= 0) {
                return false;
            }
            depth--;
            return true;
        }

        /** Number axis (0 or 1) of x, y seen through the innermost matrix. */
        long across(long x, long y, int axis, boolean shifted) {
            int first = depth * MOST_NUMBERS + axis;
            if (first < 0 || first + 4 >= rows.length) {
                return 0;
            }
            long turned = nearest(rows[first] * x + rows[first + 2] * y, UNIT);
            return shifted ? turned + rows[first + 4] : turned;
        }
    }

    /** Does commands with a letter: keeps the point at hand, and draws through the matrices. */
    private static final class Pen {
        final Matrices matrices = new Matrices();
        // The points of the command at hand, before the matrix and behind it.
        final long[] points = new long[MOST_NUMBERS];
        final long[] drawn = new long[MOST_NUMBERS];
        long x;
        long y;
        long startX;
        long startY;
        long controlX;
        long controlY;
        // C behind C or S, Q behind Q or T: for whom the control point may be turned over.
        char controlFor;

        void standAtZero() {
            x = 0;
            y = 0;
            controlFor = 0;
        }

        /** Makes the points of a command with a letter: which kind of command it draws. */
        int aim(char capital, boolean small, long[] numbers) {
            takePoints(small, numbers);
            char before = controlFor;
            controlFor = 0;
            switch (capital) {
                case 'M':
                    startX = points[0];
                    startY = points[1];
                    return MOVE;
                case 'L':
                    return LINE;
                case 'H':
                    points[1] = y;
                    return LINE;
                case 'V':
                    // Its only number came as an x.
                    points[1] = small ? points[0] - x + y : points[0];
                    points[0] = x;
                    return LINE;
                case 'C':
                    aimByTwoControls();
                    return CUBIC;
                case 'S':
                    putTurnedFirst(before == 'C');
                    aimByTwoControls();
                    return CUBIC;
                case 'Q':
                    aimByOneControl();
                    return CUBIC;
                case 'T':
                    putTurnedFirst(before == 'Q');
                    aimByOneControl();
                    return CUBIC;
                default:
                    return CLOSE;
            }
        }

        void takePoints(boolean small, long[] numbers) {
            for (int i = 0; i < MOST_NUMBERS && i < numbers.length; i++) {
                long from = i % 2 == 0 ? x : y;
                points[i] = small ? from + numbers[i] : numbers[i];
            }
        }

        /** Makes room for a control point that the text leaves out, and puts it there. */
        void putTurnedFirst(boolean turned) {
            for (int i = MOST_NUMBERS - 1; i >= 2; i--) {
                points[i] = points[i - 2];
            }
            points[0] = turned ? 2 * x - controlX : x;
            points[1] = turned ? 2 * y - controlY : y;
        }

        void aimByTwoControls() {
            controlX = points[2];
            controlY = points[3];
            controlFor = 'C';
        }

        void aimByOneControl() {
            controlX = points[0];
            controlY = points[1];
            controlFor = 'Q';
            points[4] = points[2];
            points[5] = points[3];
            points[0] = nearest(x + 2 * controlX, 3);
            points[1] = nearest(y + 2 * controlY, 3);
            points[2] = nearest(points[4] + 2 * controlX, 3);
            points[3] = nearest(points[5] + 2 * controlY, 3);
        }

        /** Draws the points that were aimed at, and goes to the last; false if they can't be drawn. */
        boolean draw(int kind, Drawing target) {
            int needs = numbersOf(kind);
            for (int i = 0; i + 1 < needs && i + 1 < MOST_NUMBERS; i += 2) {
                drawn[i] = matrices.across(points[i], points[i + 1], 0, true);
                drawn[i + 1] = matrices.across(points[i], points[i + 1], 1, true);
                x = points[i];
                y = points[i + 1];
            }
            if (kind == CLOSE) {
                x = startX;
                y = startY;
            }
            return target.add(kind, drawn);
        }
    }

    /** Reads a text from the left, up to its end or to the first place that is wrong. */
    private static final class Reader {
        final Row text;
        final Pen pen = new Pen();
        final long[] numbers = new long[MOST_NUMBERS];
        int at;
        int wrong;
        boolean moveIsDue;

        Reader(Row text) {
            this.text = text;
        }

        /** Reads the text into a drawing: NONE, or the place where it is seen to be wrong. */
        int placeOfWrong(Drawing target) {
            target.count = 0;
            pen.matrices.startOver();
            pen.standAtZero();
            at = 0;
            moveIsDue = true;
            // Each step takes one character at least, so these steps are enough for all.
            for (int step = 0; step <= MOST_CHARACTERS; step++) {
                passBlanks();
                if (at >= text.length) {
                    return pen.matrices.depth == 0 ? NONE : text.length;
                }
                int place = at;
                char letter = text.at(place);
                at++;
                boolean right = letter == '(' ? takeOpening(place)
                        : letter == ')' ? takeClosing(place)
                        : takeLetter(letter, place, target);
                if (!right) {
                    return wrong;
                }
            }
            return at;
        }

        boolean takeOpening(int place) {
            if (pen.matrices.isFull()) {
                return seeWrong(place);
            }
            if (!takeNumbers(MOST_NUMBERS)) {
                return false;
            }
            if (!pen.matrices.open(numbers)) {
                return seeWrong(place);
            }
            passBracket();
            return true;
        }

        boolean takeClosing(int place) {
            if (!pen.matrices.shut()) {
                return seeWrong(place);
            }
            passBracket();
            return true;
        }

        void passBracket() {
            moveIsDue = true;
            pen.standAtZero();
        }

        boolean takeLetter(char letter, int place, Drawing target) {
            boolean small = letter >= 'a' && letter <= 'z';
            char capital = small ? (char) (letter - 'a' + 'A') : letter;
            int needs = numbersBehind(capital);
            if (needs == NONE || (moveIsDue && capital != 'M')) {
                return seeWrong(place);
            }
            moveIsDue = false;
            // A set of numbers takes one character at least.
            for (int set = 0; set <= MOST_CHARACTERS; set++) {
                if (!takeNumbers(needs)) {
                    return false;
                }
                char meant = capital == 'M' && set > 0 ? 'L' : capital;
                int kind = pen.aim(meant, small, numbers);
                if (!pen.draw(kind, target)) {
                    return seeWrong(place);
                }
                if (needs == 0 || !numeralFollows()) {
                    return true;
                }
            }
            return seeWrong(place);
        }

        static int numbersBehind(char capital) {
            switch (capital) {
                case 'Z':
                    return 0;
                case 'H':
                case 'V':
                    return 1;
                case 'M':
                case 'L':
                case 'T':
                    return 2;
                case 'S':
                case 'Q':
                    return 4;
                case 'C':
                    return 6;
                default:
                    return NONE;
            }
        }

        boolean takeNumbers(int needs) {
            for (int i = 0; i < needs && i < MOST_NUMBERS; i++) {
                passBlanks();
                if (!takeNumeral(i)) {
                    return seeWrong(at);
                }
            }
            return true;
        }

        /** Takes a numeral as number i; where there is none that may be, stays before it. */
        boolean takeNumeral(int i) {
            boolean less = text.at(at) == '-';
            int end = less || text.at(at) == '+' ? at + 1 : at;
            long value = 0;
            int digits = 0;
            int behind = 0;
            boolean pointed = false;
            for (; end < text.length; end++) {
                char character = text.at(end);
                if (isDigit(character)) {
                    digits++;
                    value = digits > MOST_DIGITS ? 0 : value * 10 + (character - '0');
                    behind += pointed ? 1 : 0;
                } else if (character == '.' && !pointed) {
                    pointed = true;
                } else {
                    break;
                }
            }
            if (digits == 0 || digits > MOST_DIGITS || behind < 0 || behind >= TENS.length) {
                return false;
            }
            long number = nearest((less ? -value : value) * UNIT, TENS[behind]);
            if (!isNumber(number) || i < 0 || i >= MOST_NUMBERS) {
                return false;
            }
            numbers[i] = number;
            at = end;
            return true;
        }

        boolean numeralFollows() {
            passBlanks();
            char next = text.at(at);
            return isDigit(next) || next == '+' || next == '-' || next == '.';
        }

        static boolean isDigit(char character) {
            return character >= '0' && character <= '9';
        }

        void passBlanks() {
            while (at < text.length && (text.at(at) == ' ' || text.at(at) == ',')) {
                at++;
            }
        }

        boolean seeWrong(int place) {
            wrong = place;
            return false;
        }
    }

    /** Writes a drawing with as few digits as do. */
    private static final class Writer {
        static void writeDrawing(Drawing drawing, Row row) {
            row.length = 0;
            for (int k = 0; k < MOST_COMMANDS && k < drawing.count; k++) {
                row.put(letterOf(drawing.kinds[k]));
                boolean pointed = false;
                for (int i = 0; i < numbersOf(drawing.kinds[k]); i++) {
                    pointed = writeNumeral(drawing.numbers[k * MOST_NUMBERS + i], i == 0, pointed, row);
                }
            }
        }

        static char letterOf(int kind) {
            switch (kind) {
                case MOVE:
                    return 'M';
                case LINE:
                    return 'L';
                case CUBIC:
                    return 'C';
                default:
                    return 'Z';
            }
        }

        /** Writes one numeral, behind one with a point or not; whether it has one itself. */
        static boolean writeNumeral(int number, boolean first, boolean behindPointed, Row row) {
            long size = number < 0 ? -(long) number : number;
            int behind = leastDigitsBehind(number, size);
            long decimal = decimalNextTo(size, behind);
            long whole = decimal / tens(behind);
            boolean bare = behind > 0 && whole == 0;
            if (!first && number >= 0 && !(bare && behindPointed)) {
                row.put(' ');
            }
            if (number < 0) {
                row.put('-');
            }
            if (!bare) {
                putWhole(whole, row);
            }
            if (behind > 0) {
                row.put('.');
                putDigits(decimal, behind, row);
            }
            return behind > 0;
        }

        static int leastDigitsBehind(int number, long size) {
            for (int behind = 0; behind < MOST_DIGITS_BEHIND; behind++) {
                long decimal = decimalNextTo(size, behind);
                long counted = nearest((number < 0 ? -decimal : decimal) * UNIT, tens(behind));
                if (counted == number) {
                    return behind;
                }
            }
            return MOST_DIGITS_BEHIND;
        }

        /** The decimal (as a count of its last digit) next to a size, of two the lesser one. */
        static long decimalNextTo(long size, int behind) {
            return Math.floorDiv(2 * size * tens(behind) + UNIT - 1, 2L * UNIT);
        }

        static long tens(int digits) {
            return digits < 0 || digits >= TENS.length ? 1 : TENS[digits];
        }

        static void putWhole(long whole, Row row) {
            int digits = 1;
            while (digits < MOST_DIGITS && whole >= tens(digits)) {
                digits++;
            }
            putDigits(whole, digits, row);
        }

        /** The last digits of a value. */
        static void putDigits(long value, int digits, Row row) {
            for (int i = digits - 1; i >= 0; i--) {
                row.put((int) ('0' + value / tens(i) % 10));
            }
        }
    }

    /** Counts the covered points of squares. */
    private static final class Cover {
        final int[] squares = new int[MOST_SIZE * MOST_SIZE];
        // What edges add from a column on, for one row of squares at a time: 16 rows of points.
        final int[] changes = new int[POINTS_A_SIDE * MOST_COLUMNS];
        int width;
        int height;
        long top;
        long x;
        long y;
        long startX;
        long startY;

        int coverSquares(Drawing drawing, int newWidth, int newHeight, int rule) {
            width = newWidth;
            height = newHeight;
            Arrays.fill(squares, 0);
            int points = 0;
            for (int row = 0; row < height && row < MOST_SIZE; row++) {
                Arrays.fill(changes, 0);
                top = (long) row * UNIT;
                addDrawing(drawing);
                points += countPoints(row, rule);
            }
            return points;
        }

        void addDrawing(Drawing drawing) {
            for (int k = 0; k < MOST_COMMANDS && k < drawing.count; k++) {
                int first = k * MOST_NUMBERS;
                switch (drawing.kinds[k]) {
                    case MOVE:
                        // Where nothing came since the start, this edge is a point, and adds nothing.
                        addEdge(startX, startY);
                        startX = drawing.numbers[first];
                        startY = drawing.numbers[first + 1];
                        x = startX;
                        y = startY;
                        break;
                    case LINE:
                        addEdge(drawing.numbers[first], drawing.numbers[first + 1]);
                        break;
                    case CUBIC:
                        addCubic(drawing.numbers, first);
                        break;
                    default:
                        addEdge(startX, startY);
                        break;
                }
            }
            addEdge(startX, startY);
        }

        void addCubic(int[] numbers, int first) {
            if (first < 0 || first + MOST_NUMBERS > numbers.length) {
                return;
            }
            long fromX = x;
            long fromY = y;
            for (int k = 1; k <= EDGES_OF_CUBIC; k++) {
                long toX = onCurve(fromX, numbers[first], numbers[first + 2], numbers[first + 4], k);
                long toY = onCurve(fromY, numbers[first + 1], numbers[first + 3], numbers[first + 5], k);
                addEdge(toX, toY);
            }
        }

        static long onCurve(long from, long control1, long control2, long to, long k) {
            long rest = EDGES_OF_CUBIC - k;
            long sum = from * rest * rest * rest
                    + 3 * control1 * rest * rest * k
                    + 3 * control2 * rest * k * k
                    + to * k * k * k;
            return nearest(sum, WHOLE_OF_CURVE);
        }

        void addEdge(long toX, long toY) {
            if (y < toY) {
                addCrossings(x, y, toX, toY, 1);
            } else {
                addCrossings(toX, toY, x, y, -1);
            }
            x = toX;
            y = toY;
        }

        void addCrossings(long upperX, long upperY, long lowerX, long lowerY, int change) {
            long rise = lowerY - upperY;
            if (rise <= 0) {
                return;
            }
            int firstRow = firstPointFrom(upperY - top, POINTS_A_SIDE);
            int endRow = firstPointFrom(lowerY - top, POINTS_A_SIDE);
            for (int row = firstRow; row < endRow; row++) {
                long down = top + 8 + 16L * row - upperY;
                // Points have whole numbers, so the least whole one not below the crossing will do.
                long met = upperX - Math.floorDiv(-down * (lowerX - upperX), rise);
                int column = firstPointFrom(met, MOST_COLUMNS);
                if (column < MOST_COLUMNS) {
                    changes[row * MOST_COLUMNS + column] += change;
                }
            }
        }

        /** The first of points 8, 24, 40 .. that is not below a number; end, if none before it is. */
        static int firstPointFrom(long number, int end) {
            long first = (number + 7) >> 4;
            return first < 0 ? 0 : first > end ? end : (int) first;
        }

        int countPoints(int squareRow, int rule) {
            int points = 0;
            for (int row = 0; row < POINTS_A_SIDE; row++) {
                int sum = 0;
                for (int column = 0; column < width * POINTS_A_SIDE && column < MOST_COLUMNS; column++) {
                    sum += changes[row * MOST_COLUMNS + column];
                    if (rule == 0 ? sum != 0 : sum % 2 != 0) {
                        squares[squareRow * MOST_SIZE + column / POINTS_A_SIDE]++;
                        points++;
                    }
                }
            }
            return points;
        }
    }
}

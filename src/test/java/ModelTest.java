import java.math.BigInteger;
import java.util.ArrayList;
import java.util.List;
import java.util.Random;

/** Made-up runs of calls, the same ones each time, against the model. */
public final class ModelTest {
    private static final String LETTERS = "MmLlHhVvCcSsQqTtZz";
    private static final int[] NEEDS = {2, 2, 2, 2, 1, 1, 1, 1, 6, 6, 4, 4, 4, 4, 2, 2, 0, 0};

    private final Random random;
    private final Paths paths = new Paths();
    private List<Model.Command> drawing = new ArrayList<>();
    private String written = "";
    private int width = 0;
    private int height = 0;
    private int rule = 0;
    private List<Model.Edge> rendered = new ArrayList<>();

    private ModelTest(long seed) {
        random = new Random(seed);
    }

    public static void main(String[] args) {
        for (int number = -70000; number <= 70000; number += 1) {
            lookAtNumeral(number);
        }
        for (int off = 0; off <= 3000; off++) {
            lookAtNumeral(1048576 - off);
            lookAtNumeral(off - 1048576);
        }
        for (int seed = 0; seed < 1500; seed++) {
            new ModelTest(seed).run();
        }
        Checks.end();
    }

    private static final Paths ONE = new Paths();

    private static void lookAtNumeral(int number) {
        ONE.clear();
        ONE.move(number, 0);
        ONE.write();
        String writing = Checks.written(ONE);
        Checks.due("writing " + number, writing, "M" + Model.numeral(number) + " 0");
        Checks.readText(ONE, writing);
        Checks.due("reading " + writing, ONE.number(0, 0), number);
    }

    private void run() {
        int style = random.nextInt(4);
        // A step changes the object 160 times at most: 150 times by a text, and by what follows it.
        for (int step = 0; step < 8 && paths.changes() < Paths.MOST_CALLS - 200; step++) {
            switch (random.nextInt(4)) {
                case 0, 1 -> readOne(style);
                case 2 -> addSome();
                default -> renderOne();
            }
            if (random.nextInt(2) == 0) {
                paths.write();
                written = Model.written(drawing);
            }
            lookAtAll();
        }
    }

    private void readOne(int style) {
        String text = random.nextInt(3) == 0 ? spoiled(madeText(style)) : madeText(style);
        int want;
        try {
            List<Model.Command> read = Model.read(text);
            drawing = new ArrayList<>(read);
            want = read.size();
        } catch (Model.Wrong wrong) {
            want = -1 - wrong.place;
        }
        Checks.due("read of " + text, Checks.readText(paths, text), want);
    }

    private String madeText(int style) {
        StringBuilder text = new StringBuilder();
        int depth = 0;
        boolean due = true;
        int parts = 1 + random.nextInt(14);
        for (int part = 0; part < parts; part++) {
            int pick = random.nextInt(8);
            if (pick == 0 && style > 0 && depth < 9) {
                text.append('(').append(matrix(style));
                depth++;
                due = true;
            } else if (pick == 1 && depth > 0) {
                text.append(')');
                depth--;
                due = true;
            } else {
                int letter = due ? random.nextInt(2) : random.nextInt(LETTERS.length());
                due = false;
                text.append(LETTERS.charAt(letter));
                for (int i = NEEDS[letter] * (1 + Math.max(0, random.nextInt(6) - 3)); i > 0; i--) {
                    text.append(numeral(style)).append(gap());
                }
            }
        }
        text.append(")".repeat(depth));
        return text.length() > 1200 ? text.substring(0, 1200) : text.toString();
    }

    private String matrix(int style) {
        StringBuilder all = new StringBuilder();
        for (int i = 0; i < 6; i++) {
            String number = style == 3 ? numeral(3)
                : new String[] {"1", "-1", "0", ".5", "2", "-.7", "1.1", ".003"}[random.nextInt(8)];
            all.append(number).append(' ');
        }
        return all.toString();
    }

    private String numeral(int style) {
        switch (style) {
            case 0:
                return "" + random.nextInt(9);
            case 1:
                return Model.numeral(random.nextInt(4096) - 1024);
            case 2:
                return random.nextInt(4) == 0 ? longNumeral() : (random.nextInt(9) - 1) + "." + random.nextInt(100000);
            default:
                return Model.numeral(random.nextInt(600000) - 300000);
        }
    }

    /** Nine digits at most, near to a half of 1/256. */
    private String longNumeral() {
        String half = new java.math.BigDecimal(2 * random.nextInt(2000) + 1).divide(new java.math.BigDecimal(512)).toPlainString();
        int length = Math.min(half.length(), 3 + random.nextInt(8));
        char[] cut = half.substring(0, length).toCharArray();
        if (random.nextBoolean() && cut[length - 1] >= '0' && cut[length - 1] < '9') {
            cut[length - 1]++;
        }
        return (random.nextBoolean() ? "-" : "") + new String(cut);
    }

    private String gap() {
        return new String[] {" ", ",", " ,  ", " "}[random.nextInt(4)];
    }

    /** A text with a few characters changed, put in or left out: often wrong somewhere. */
    private String spoiled(String text) {
        StringBuilder all = new StringBuilder(text);
        for (int times = 1 + random.nextInt(3); times > 0 && all.length() > 0; times--) {
            int place = random.nextInt(all.length());
            String from = "0123456789.+-MLHVCSQTZmzl() ,x";
            switch (random.nextInt(3)) {
                case 0 -> all.setCharAt(place, from.charAt(random.nextInt(from.length())));
                case 1 -> all.deleteCharAt(place);
                default -> all.insert(place, from.charAt(random.nextInt(from.length())));
            }
        }
        return all.length() > 1200 ? all.substring(0, 1200) : all.toString();
    }

    private void addSome() {
        for (int times = random.nextInt(6); times > 0; times--) {
            int[] n = new int[6];
            int reach = random.nextInt(4) == 0 ? 2097154 : 3000;
            for (int i = 0; i < 6; i++) {
                n[i] = random.nextInt(reach) - reach / 3;
            }
            switch (random.nextInt(4)) {
                case 0 -> addOne('M', Checks.answer(() -> paths.move(n[0], n[1])), n[0], n[1]);
                case 1 -> addOne('L', Checks.answer(() -> paths.line(n[0], n[1])), n[0], n[1]);
                case 2 -> addOne('C', Checks.answer(() -> paths.cubic(n[0], n[1], n[2], n[3], n[4], n[5])), n);
                default -> addOne('Z', Checks.answer(paths::close));
            }
        }
    }

    private void addOne(char letter, String answer, int... numbers) {
        List<Model.Spot> spots = new ArrayList<>();
        for (int i = 0; i < numbers.length; i += 2) {
            spots.add(new Model.Spot(BigInteger.valueOf(numbers[i]), BigInteger.valueOf(numbers[i + 1])));
        }
        String want;
        if (!spots.stream().allMatch(Model.Spot::mayBe)) {
            want = "IllegalArgumentException";
        } else if (letter != 'M' && drawing.isEmpty()) {
            want = "IllegalStateException";
        } else if (drawing.size() == 150) {
            want = "UnsupportedOperationException";
        } else {
            drawing.add(new Model.Command(letter, spots));
            want = "" + drawing.size();
        }
        Checks.due("adding " + letter, answer, want);
    }

    private void renderOne() {
        int newWidth = random.nextInt(6) == 0 ? random.nextInt(12) - 1 : 1 + random.nextInt(3);
        int newHeight = random.nextInt(6) == 0 ? random.nextInt(12) - 1 : 1 + random.nextInt(3);
        int newRule = random.nextInt(20) == 0 ? random.nextInt(5) - 2 : random.nextInt(2);
        String answer = Checks.answer(() -> paths.render(newWidth, newHeight, newRule));
        if (newWidth < 1 || newWidth > 8 || newHeight < 1 || newHeight > 8 || newRule < 0 || newRule > 1) {
            Checks.due("render", answer, "IllegalArgumentException");
            return;
        }
        width = newWidth;
        height = newHeight;
        rule = newRule;
        rendered = Model.edges(drawing);
        int all = 0;
        for (int y = 0; y < height; y++) {
            for (int x = 0; x < width; x++) {
                all += Model.covered(rendered, x, y, rule);
            }
        }
        Checks.due("render of " + Model.told(drawing), answer, "" + all);
    }

    private void lookAtAll() {
        Checks.due("the drawing", Checks.commands(paths), Model.told(drawing));
        Checks.due("the writing", Checks.written(paths), written);
        Checks.due("the edges", paths.told(3), Model.edges(drawing).size());
        Checks.due("the text", paths.told(1), 0);
        for (int what = 0; what < 4; what++) {
            Checks.due("bound " + what, paths.bound(what), Model.bound(drawing, what));
        }
        int x = random.nextInt(4) - 1;
        int y = random.nextInt(4) - 1;
        boolean there = x >= 0 && x < width && y >= 0 && y < height;
        Checks.due("covered " + x + ", " + y, Checks.answer(() -> paths.covered(x, y)),
            there ? "" + Model.covered(rendered, x, y, rule) : "IndexOutOfBoundsException");
    }
}

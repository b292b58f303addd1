import java.math.BigDecimal;
import java.math.BigInteger;
import java.math.RoundingMode;
import java.util.ArrayDeque;
import java.util.ArrayList;
import java.util.Deque;
import java.util.List;
import java.util.regex.Matcher;
import java.util.regex.Pattern;

/** The document written a second time: slow, in exact arithmetic, point by point. */
final class Model {
    static final BigInteger LIMIT = BigInteger.valueOf(1048576);
    private static final Pattern NUMERAL = Pattern.compile("[+-]?[0-9]*(\\.[0-9]*)?");

    /** A text is wrong at a place. */
    static final class Wrong extends Exception {
        private static final long serialVersionUID = 1L;
        final int place;

        Wrong(int place) {
            this.place = place;
        }
    }

    /** A point before or behind a matrix. */
    record Spot(BigInteger x, BigInteger y) {
        Spot plus(Spot other) {
            return new Spot(x.add(other.x), y.add(other.y));
        }

        Spot turnedOver(Spot centre) {
            return new Spot(centre.x.shiftLeft(1).subtract(x), centre.y.shiftLeft(1).subtract(y));
        }

        Spot thirdTo(Spot control) {
            BigInteger three = BigInteger.valueOf(3);
            return new Spot(nearest(x.add(control.x.shiftLeft(1)), three), nearest(y.add(control.y.shiftLeft(1)), three));
        }

        boolean mayBe() {
            return x.abs().compareTo(LIMIT) <= 0 && y.abs().compareTo(LIMIT) <= 0;
        }
    }

    /** A command that is drawn. */
    record Command(char letter, List<Spot> spots) {
    }

    /** An edge with a way. */
    record Edge(Spot from, Spot to) {
    }

    static final Spot ZERO = new Spot(BigInteger.ZERO, BigInteger.ZERO);

    private final String text;
    private int at = 0;
    private final List<Command> drawing = new ArrayList<>();
    private final Deque<BigInteger[]> matrices = new ArrayDeque<>();
    private Spot hand = ZERO;
    private Spot start = ZERO;
    private Spot control = ZERO;
    private char before = ' ';

    private Model(String text) {
        this.text = text;
    }

    static BigInteger nearest(BigInteger dividend, BigInteger divisor) {
        return nearest(new BigDecimal(dividend).divide(new BigDecimal(divisor), 40, RoundingMode.HALF_EVEN));
    }

    static BigInteger nearest(BigDecimal value) {
        return value.add(new BigDecimal("0.5")).setScale(0, RoundingMode.FLOOR).toBigInteger();
    }

    static BigInteger countOf(String numeral) {
        return nearest(new BigDecimal(numeral).multiply(BigDecimal.valueOf(256)));
    }

    // ---- reading

    static List<Command> read(String text) throws Wrong {
        Model model = new Model(text);
        model.readAll();
        return model.drawing;
    }

    private char next() {
        while (at < text.length() && " ,".indexOf(text.charAt(at)) >= 0) {
            at++;
        }
        return at < text.length() ? text.charAt(at) : '\0';
    }

    private void readAll() throws Wrong {
        BigInteger unit = BigInteger.valueOf(256);
        BigInteger nil = BigInteger.ZERO;
        matrices.push(new BigInteger[] {unit, nil, nil, unit, nil, nil});
        boolean free = false;
        while (next() != '\0') {
            int place = at;
            char letter = text.charAt(at++);
            if (letter == '(') {
                if (matrices.size() == 9) {
                    throw new Wrong(place);
                }
                matrices.push(joined(matrices.peek(), numerals(6), place));
            } else if (letter == ')') {
                if (matrices.size() == 1) {
                    throw new Wrong(place);
                }
                matrices.pop();
            } else if ("MmLlHhVvCcSsQqTtZz".indexOf(letter) < 0 || (!free && "Mm".indexOf(letter) < 0)) {
                throw new Wrong(place);
            } else {
                readSets(letter, place);
                free = true;
                continue;
            }
            free = false;
            hand = ZERO;
        }
        if (matrices.size() > 1) {
            throw new Wrong(text.length());
        }
    }

    private static BigInteger[] joined(BigInteger[] outer, BigInteger[] own, int place) throws Wrong {
        Spot first = through(outer, new Spot(own[0], own[1]), false);
        Spot second = through(outer, new Spot(own[2], own[3]), false);
        Spot third = through(outer, new Spot(own[4], own[5]), true);
        if (!first.mayBe() || !second.mayBe() || !third.mayBe()) {
            throw new Wrong(place);
        }
        return new BigInteger[] {first.x, first.y, second.x, second.y, third.x, third.y};
    }

    private static Spot through(BigInteger[] m, Spot p, boolean shifted) {
        BigInteger unit = BigInteger.valueOf(256);
        Spot turned = new Spot(nearest(m[0].multiply(p.x).add(m[2].multiply(p.y)), unit),
            nearest(m[1].multiply(p.x).add(m[3].multiply(p.y)), unit));
        return shifted ? turned.plus(new Spot(m[4], m[5])) : turned;
    }

    private void readSets(char letter, int place) throws Wrong {
        char capital = Character.toUpperCase(letter);
        int needs = "ZHMLTSQC".indexOf(capital) < 0 ? 1 : new int[] {0, 1, 2, 2, 2, 4, 4, 6}["ZHMLTSQC".indexOf(capital)];
        boolean small = capital != letter;
        do {
            perform(capital, small, numerals(needs), place);
            capital = capital == 'M' ? 'L' : capital;
        } while (needs > 0 && next() != '\0' && "0123456789+-.".indexOf(next()) >= 0);
    }

    private BigInteger[] numerals(int needs) throws Wrong {
        BigInteger[] all = new BigInteger[needs];
        for (int i = 0; i < needs; i++) {
            next();
            Matcher matcher = NUMERAL.matcher(text).region(at, text.length());
            String found = matcher.lookingAt() ? matcher.group() : "";
            int digits = found.replaceAll("[^0-9]", "").length();
            if (digits < 1 || digits > 9) {
                throw new Wrong(at);
            }
            all[i] = countOf(found);
            if (all[i].abs().compareTo(LIMIT) > 0) {
                throw new Wrong(at);
            }
            at += found.length();
        }
        return all;
    }

    private void perform(char capital, boolean small, BigInteger[] n, int place) throws Wrong {
        Spot from = small ? hand : ZERO;
        List<Spot> given = new ArrayList<>();
        for (int i = 0; i + 1 < n.length; i += 2) {
            given.add(from.plus(new Spot(n[i], n[i + 1])));
        }
        switch (capital) {
            case 'M' -> {
                start = given.get(0);
                draw('M', given, place);
            }
            case 'L' -> draw('L', given, place);
            case 'H' -> draw('L', List.of(new Spot(from.x.add(n[0]), hand.y)), place);
            case 'V' -> draw('L', List.of(new Spot(hand.x, from.y.add(n[0]))), place);
            case 'C' -> curve(given, place);
            case 'S' -> {
                given.add(0, "CS".indexOf(before) >= 0 ? control.turnedOver(hand) : hand);
                curve(given, place);
            }
            case 'Q' -> bow(given.get(0), given.get(1), place);
            case 'T' -> bow("QT".indexOf(before) >= 0 ? control.turnedOver(hand) : hand, given.get(0), place);
            default -> {
                draw('Z', List.of(), place);
                hand = start;
            }
        }
        before = capital;
    }

    private void curve(List<Spot> spots, int place) throws Wrong {
        draw('C', spots, place);
        control = spots.get(1);
    }

    private void bow(Spot q, Spot end, int place) throws Wrong {
        draw('C', List.of(hand.thirdTo(q), end.thirdTo(q), end), place);
        control = q;
    }

    private void draw(char letter, List<Spot> spots, int place) throws Wrong {
        List<Spot> drawn = new ArrayList<>();
        for (Spot spot : spots) {
            drawn.add(through(matrices.peek(), spot, true));
            hand = spot;
        }
        if (drawing.size() == 150 || !drawn.stream().allMatch(Spot::mayBe)) {
            throw new Wrong(place);
        }
        drawing.add(new Command(letter, drawn));
    }

    // ---- telling

    static String told(List<Command> drawing) {
        StringBuilder all = new StringBuilder();
        for (Command command : drawing) {
            all.append(all.length() == 0 ? "" : " ").append(command.letter());
            String comma = "";
            for (Spot spot : command.spots()) {
                all.append(comma).append(spot.x()).append(',').append(spot.y());
                comma = ",";
            }
        }
        return all.toString();
    }

    static int bound(List<Command> drawing, int what) {
        BigInteger found = null;
        for (Command command : drawing) {
            for (Spot spot : command.spots()) {
                BigInteger number = what % 2 == 0 ? spot.x() : spot.y();
                found = found == null ? number : what < 2 ? found.min(number) : found.max(number);
            }
        }
        return found == null ? 0 : found.intValueExact();
    }

    // ---- writing

    static String numeral(int number) {
        for (int behind = 0;; behind++) {
            BigDecimal exact = BigDecimal.valueOf(number).divide(BigDecimal.valueOf(256));
            BigInteger near = exact.movePointRight(behind).toBigInteger();
            BigDecimal best = null;
            for (int off = -3; off <= 3; off++) {
                BigDecimal tried = new BigDecimal(near.add(BigInteger.valueOf(off)), behind);
                if (countOf(tried.toPlainString()).intValueExact() == number && (best == null || closer(tried, best, exact))) {
                    best = tried;
                }
            }
            if (best != null) {
                return best.toPlainString().replaceFirst("^(-?)0\\.", "$1.");
            }
        }
    }

    private static boolean closer(BigDecimal tried, BigDecimal best, BigDecimal exact) {
        int compared = tried.subtract(exact).abs().compareTo(best.subtract(exact).abs());
        return compared < 0 || (compared == 0 && tried.abs().compareTo(best.abs()) < 0);
    }

    static String written(List<Command> drawing) {
        StringBuilder all = new StringBuilder();
        for (Command command : drawing) {
            all.append(command.letter());
            String last = null;
            for (Spot spot : command.spots()) {
                for (BigInteger number : List.of(spot.x(), spot.y())) {
                    String numeral = numeral(number.intValueExact());
                    all.append(last == null || !goesOn(last, numeral) ? "" : " ").append(numeral);
                    last = numeral;
                }
            }
        }
        return all.toString();
    }

    /** Whether a numeral right behind another would be read as more of that one. */
    private static boolean goesOn(String last, String numeral) {
        Matcher matcher = NUMERAL.matcher(last + numeral);
        return matcher.lookingAt() && matcher.end() > last.length();
    }

    // ---- covering

    static List<Edge> edges(List<Command> drawing) {
        List<Edge> edges = new ArrayList<>();
        Spot begin = ZERO;
        Spot hand = ZERO;
        boolean open = false;
        for (Command command : drawing) {
            if ("MZ".indexOf(command.letter()) >= 0) {
                if (open) {
                    edges.add(new Edge(hand, begin));
                }
                open = false;
                begin = command.letter() == 'M' ? command.spots().get(0) : begin;
                hand = begin;
                continue;
            }
            open = true;
            List<Spot> way = command.letter() == 'L' ? command.spots() : flattened(hand, command.spots());
            for (Spot spot : way) {
                edges.add(new Edge(hand, spot));
                hand = spot;
            }
        }
        if (open) {
            edges.add(new Edge(hand, begin));
        }
        return edges;
    }

    private static List<Spot> flattened(Spot from, List<Spot> spots) {
        List<Spot> way = new ArrayList<>();
        for (int k = 1; k <= 16; k++) {
            long[] weights = {(16 - k) * (16 - k) * (16 - k), 3 * (16 - k) * (16 - k) * k, 3 * (16 - k) * k * k, k * k * k};
            BigInteger x = from.x().multiply(BigInteger.valueOf(weights[0]));
            BigInteger y = from.y().multiply(BigInteger.valueOf(weights[0]));
            for (int i = 0; i < 3; i++) {
                x = x.add(spots.get(i).x().multiply(BigInteger.valueOf(weights[i + 1])));
                y = y.add(spots.get(i).y().multiply(BigInteger.valueOf(weights[i + 1])));
            }
            way.add(new Spot(nearest(x, BigInteger.valueOf(4096)), nearest(y, BigInteger.valueOf(4096))));
        }
        return way;
    }

    static int covered(List<Edge> edges, int squareX, int squareY, int rule) {
        int covered = 0;
        for (int j = 0; j < 16; j++) {
            for (int i = 0; i < 16; i++) {
                int sum = 0;
                for (Edge edge : edges) {
                    sum += counts(edge, 256 * squareX + 8 + 16 * i, 256 * squareY + 8 + 16 * j);
                }
                covered += rule == 0 ? (sum != 0 ? 1 : 0) : Math.floorMod(sum, 2);
            }
        }
        return covered;
    }

    private static int counts(Edge edge, long px, long py) {
        long x = edge.from().x().longValue();
        long y = edge.from().y().longValue();
        long x2 = edge.to().x().longValue();
        long y2 = edge.to().y().longValue();
        if (y <= py && py < y2) {
            return (py - y) * (x2 - x) <= (px - x) * (y2 - y) ? 1 : 0;
        }
        if (y2 <= py && py < y) {
            return (py - y) * (x2 - x) >= (px - x) * (y2 - y) ? -1 : 0;
        }
        return 0;
    }
}

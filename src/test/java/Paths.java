import java.util.ArrayList;
import java.util.List;
import java.util.function.ToIntFunction;

/**
 * A PathTexts that a test may ask as much as it likes: the document promises the answers of 512
 * calls alone, so then a new object is brought to the same state and answers further.
 */
final class Paths {
    static final int MOST_CALLS = 512;

    private PathTexts paths = new PathTexts();
    private int calls = 0;
    private final List<ToIntFunction<PathTexts>> changes = new ArrayList<>();

    /** How many calls bring a new object to this state. */
    int changes() {
        return changes.size();
    }

    int text(long characters) {
        return change(p -> p.text(characters));
    }

    int read() {
        return change(PathTexts::read);
    }

    int move(int x, int y) {
        return change(p -> p.move(x, y));
    }

    int line(int x, int y) {
        return change(p -> p.line(x, y));
    }

    int cubic(int x1, int y1, int x2, int y2, int x, int y) {
        return change(p -> p.cubic(x1, y1, x2, y2, x, y));
    }

    int close() {
        return change(PathTexts::close);
    }

    int command(int k) {
        return next().command(k);
    }

    int number(int k, int i) {
        return next().number(k, i);
    }

    int write() {
        return change(PathTexts::write);
    }

    int charAt(int i) {
        return next().charAt(i);
    }

    int render(int width, int height, int rule) {
        return change(p -> p.render(width, height, rule));
    }

    int covered(int x, int y) {
        return next().covered(x, y);
    }

    int bound(int what) {
        return next().bound(what);
    }

    int told(int what) {
        return next().told(what);
    }

    void clear() {
        next().clear();
        changes.clear();
    }

    private int change(ToIntFunction<PathTexts> call) {
        PathTexts one = next();
        // Also one that throws: if that changed something after all, it must not be lost.
        changes.add(call);
        return call.applyAsInt(one);
    }

    private PathTexts next() {
        if (calls == MOST_CALLS) {
            renew();
        }
        calls++;
        return paths;
    }

    private void renew() {
        if (changes.size() >= MOST_CALLS) {
            throw new AssertionError("a test changes one object more often than it may be called");
        }
        paths = new PathTexts();
        for (ToIntFunction<PathTexts> change : changes) {
            again(change);
        }
        calls = changes.size();
    }

    private void again(ToIntFunction<PathTexts> change) {
        try {
            change.applyAsInt(paths);
        } catch (RuntimeException thrown) {
            // It was thrown the first time, too, and looked at then.
            return;
        }
    }
}

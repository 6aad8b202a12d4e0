import java.util.ArrayList;
import java.util.List;
import java.util.function.Consumer;

/**
 * An IntraPicture that is not used for more calls than the document allows. Then another takes its place, which was
 * brought to the same state by the same calls of feed, clear and decode.
 */
final class Subject {
    static final int MOST_CALLS = 512;

    private final List<Consumer<IntraPicture>> changes = new ArrayList<>();
    private IntraPicture object = new IntraPicture();
    private int calls = 0;

    private IntraPicture asked() {
        if (calls == MOST_CALLS) {
            object = new IntraPicture();
            changes.forEach(change -> change.accept(object));
            calls = changes.size();
        }
        if (calls >= MOST_CALLS) {
            throw new IllegalStateException("the test makes more calls than an object has");
        }
        calls++;
        return object;
    }

    boolean feed(long v, int n) {
        boolean answer = asked().feed(v, n);
        changes.add(x -> x.feed(v, n));
        return answer;
    }

    void clear() {
        asked().clear();
        changes.add(x -> x.clear());
    }

    int decode() {
        int answer = asked().decode();
        changes.add(x -> x.decode());
        return answer;
    }

    int units() {
        return asked().units();
    }

    int payload(int i, int k) {
        return asked().payload(i, k);
    }

    int parameter(int k) {
        return asked().parameter(k);
    }

    int sample(int x, int y) {
        return asked().sample(x, y);
    }

    int plain(int x, int y) {
        return asked().plain(x, y);
    }

    int predicted(int x, int y) {
        return asked().predicted(x, y);
    }

    int level(int x, int y) {
        return asked().level(x, y);
    }

    int mode(int x, int y) {
        return asked().mode(x, y);
    }

    int side(int x, int y) {
        return asked().side(x, y);
    }

    int chance(int k) {
        return asked().chance(k);
    }

    int took(int k) {
        return asked().took(k);
    }
}

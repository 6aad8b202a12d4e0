import java.util.ArrayList;
import java.util.List;

/** Makes the rows of bytes that the tests feed. */
final class Bytes {
    private final List<Integer> row = new ArrayList<>();

    static Bytes of(int... bytes) {
        return new Bytes().raw(bytes);
    }

    Bytes raw(int... bytes) {
        for (int b : bytes) {
            row.add(b & 255);
        }
        return this;
    }

    /** A start, the kind and the rest, with a 3 put in wherever the payload could look like something else. */
    Bytes unit(int kind, int... rest) {
        raw(0, 0, 1);
        int zeros = escape(kind, 0);
        for (int b : rest) {
            zeros = escape(b, zeros);
        }
        return this;
    }

    private int escape(int b, int zeros) {
        int now = zeros;
        if (now >= 2 && b <= 3) {
            row.add(3);
            now = 0;
        }
        row.add(b);
        return b == 0 ? now + 1 : 0;
    }

    int count() {
        return row.size();
    }

    int[] toArray() {
        return row.stream().mapToInt(Integer::intValue).toArray();
    }

    /** Feeds all bytes, at most eight a call; false if a call was refused. */
    boolean feedTo(Subject x) {
        for (int from = 0; from < row.size(); from += 8) {
            int n = Math.min(8, row.size() - from);
            if (!x.feed(packed(from, n), n)) {
                return false;
            }
        }
        return true;
    }

    private long packed(int from, int n) {
        long v = 0;
        for (int j = n - 1; j >= 0; j--) {
            v = v << 8 | row.get(from + j);
        }
        return v;
    }

    Subject fed() {
        Subject x = new Subject();
        if (!feedTo(x)) {
            throw new IllegalStateException("the test feeds more than 240 bytes");
        }
        return x;
    }
}

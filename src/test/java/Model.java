import java.util.ArrayList;
import java.util.List;

/** The document written down a second time, as plainly as possible and with no care for speed or room. */
final class Model {
    private final List<Integer> bytes = new ArrayList<>();
    private int[] parameters = null;
    private Drawing drawing = null;

    boolean feed(long v, int n) {
        if (n < 1 || n > 8 || bytes.size() + n > 240) {
            return false;
        }
        long left = v;
        for (int i = 0; i < n; i++) {
            bytes.add((int) (left & 0xFF));
            left >>= 8;
        }
        return true;
    }

    void clear() {
        bytes.clear();
        parameters = null;
        drawing = null;
    }

    private List<List<Integer>> payloads() {
        List<List<Integer>> raw = new ArrayList<>();
        int i = 0;
        while (i < bytes.size()) {
            if (i + 3 <= bytes.size() && bytes.subList(i, i + 3).equals(List.of(0, 0, 1))) {
                raw.add(new ArrayList<>());
                i += 3;
            } else {
                if (!raw.isEmpty()) {
                    raw.get(raw.size() - 1).add(bytes.get(i));
                }
                i++;
            }
        }
        List<List<Integer>> all = new ArrayList<>();
        for (List<Integer> unit : raw) {
            all.add(withoutThrees(unit));
        }
        return all;
    }

    private static List<Integer> withoutThrees(List<Integer> unit) {
        List<Integer> payload = new ArrayList<>();
        int zeros = 0;
        for (int b : unit) {
            if (zeros >= 2 && b == 3) {
                zeros = 0;
                continue;
            }
            payload.add(b);
            if (b == 0) {
                zeros++;
            } else {
                zeros = 0;
            }
        }
        return payload;
    }

    int units() {
        return payloads().size();
    }

    int payload(int i, int k) {
        List<List<Integer>> all = payloads();
        if (i < 0 || i >= all.size()) {
            return -1;
        }
        List<Integer> payload = all.get(i);
        if (k == -1) {
            return payload.size();
        }
        return k < 0 || k >= payload.size() ? -1 : payload.get(k);
    }

    private static String rest(List<Integer> payload) {
        StringBuilder bits = new StringBuilder();
        for (int i = 1; i < payload.size(); i++) {
            bits.append(Integer.toBinaryString(256 + payload.get(i)).substring(1));
        }
        return bits.toString();
    }

    int decode() {
        parameters = null;
        drawing = null;
        Drawing latest = null;
        for (List<Integer> payload : payloads()) {
            int kind = payload.isEmpty() ? -1 : payload.get(0);
            if (kind == 1) {
                try {
                    parameters = new ParameterReader(rest(payload)).all();
                } catch (Fault fault) {
                    return fault.number;
                }
            }
            if (kind == 2) {
                if (parameters == null) {
                    return -2;
                }
                latest = new Drawing(rest(payload), parameters);
            }
        }
        drawing = latest;
        return latest == null ? -1 : latest.leaves;
    }

    int parameter(int k) {
        return parameters == null || k < 0 || k > 9 ? -100 : parameters[k];
    }

    private boolean lies(int x, int y) {
        return drawing != null && Drawing.inside(x, y);
    }

    int sample(int x, int y) {
        return lies(x, y) ? drawing.finished[y][x] : -1;
    }

    int plain(int x, int y) {
        return lies(x, y) ? drawing.plain[y][x] : -1;
    }

    int predicted(int x, int y) {
        return lies(x, y) ? drawing.predicted[y][x] : -1;
    }

    int level(int x, int y) {
        return lies(x, y) ? drawing.levels[y][x] : -1000;
    }

    int mode(int x, int y) {
        return lies(x, y) ? drawing.modes[y][x] : -1;
    }

    int side(int x, int y) {
        return lies(x, y) ? drawing.sides[y][x] : -1;
    }

    int chance(int k) {
        return drawing == null || k < 0 || k > 13 ? -1 : drawing.chances[k];
    }

    int took(int k) {
        return drawing == null || k < 0 || k > 2 ? -1 : k == 0 ? drawing.bins : k == 1 ? drawing.frees : drawing.read;
    }

    private static final class Fault extends Exception {
        private static final long serialVersionUID = 1;
        private final int number;

        Fault(int number) {
            this.number = number;
        }
    }

    private static final class ParameterReader {
        private final String bits;
        private int at = 0;

        ParameterReader(String bits) {
            this.bits = bits;
        }

        private int bit() throws Fault {
            if (at == bits.length()) {
                throw new Fault(-4);
            }
            return bits.charAt(at++) - '0';
        }

        private int bits(int n) throws Fault {
            int number = 0;
            for (int i = n - 1; i >= 0; i--) {
                number += bit() << i;
            }
            return number;
        }

        private int code() throws Fault {
            for (int z = 0; z < 7; z++) {
                if (bit() == 1) {
                    return (1 << z) - 1 + bits(z);
                }
            }
            throw new Fault(-3);
        }

        private int signed() throws Fault {
            int u = code();
            int number = u % 2 == 1 ? (u + 1) / 2 : -(u / 2);
            if (Math.abs(number) > 7) {
                throw new Fault(-3);
            }
            return number;
        }

        int[] all() throws Fault {
            int[] all = new int[10];
            all[0] = code();
            if (all[0] > 51) {
                throw new Fault(-3);
            }
            for (int k = 1; k <= 3; k++) {
                all[k] = bit();
            }
            all[4] = bits(2);
            for (int k = 5; k <= 8 && all[4] != 0; k++) {
                all[k] = signed();
            }
            if (all[4] == 3) {
                all[9] = bits(3);
            }
            return all;
        }
    }

    /** One picture, decoded and finished by its constructor. */
    private static final class Drawing {
        private final String bits;
        private final int[] parameters;
        private final int[] chances = new int[14];
        private final int[][] plain = new int[16][16];
        private final int[][] predicted = new int[16][16];
        private final int[][] levels = new int[16][16];
        private final int[][] modes = new int[16][16];
        private final int[][] sides = new int[16][16];
        private int[][] finished;
        private int range = 510;
        private int value = 0;
        private int read = 0;
        private int bins = 0;
        private int frees = 0;
        private int leaves = 0;

        Drawing(String bits, int[] parameters) {
            this.bits = bits;
            this.parameters = parameters;
            java.util.Arrays.fill(chances, 512);
            for (int i = 0; i < 8; i++) {
                shift();
            }
            boolean[][] split = new boolean[2][2];
            for (int by = 0; by < 2; by++) {
                for (int bx = 0; bx < 2; bx++) {
                    int around = (bx == 1 && split[by][0] ? 1 : 0) + (by == 1 && split[0][bx] ? 1 : 0);
                    split[by][bx] = bin(around);
                    if (split[by][bx]) {
                        leaf(8 * bx, 8 * by, 4);
                        leaf(8 * bx + 4, 8 * by, 4);
                        leaf(8 * bx, 8 * by + 4, 4);
                        leaf(8 * bx + 4, 8 * by + 4, 4);
                    } else {
                        leaf(8 * bx, 8 * by, 8);
                    }
                }
            }
            finished = copy(plain);
            if (parameters[3] == 1) {
                edges();
            }
            finished = withOffsets(finished);
        }

        static boolean inside(int x, int y) {
            return 0 <= x && x <= 15 && 0 <= y && y <= 15;
        }

        private static int clamp(long number, int least, int most) {
            return number < least ? least : number > most ? most : (int) number;
        }

        private static int[][] copy(int[][] rows) {
            int[][] same = new int[rows.length][];
            for (int i = 0; i < rows.length; i++) {
                same[i] = rows[i].clone();
            }
            return same;
        }

        private void shift() {
            value = 2 * value + (read < bits.length() && bits.charAt(read) == '1' ? 1 : 0);
            read++;
        }

        private boolean bin(int context) {
            bins++;
            int p = chances[context];
            boolean likely = p >= 512;
            int u = (likely ? 1023 - p : p) >> 5;
            int l = (((range >> 5) * u) >> 1) + 4;
            range -= l;
            boolean bin;
            if (value < range) {
                bin = likely;
            } else {
                value -= range;
                range = l;
                bin = !likely;
            }
            if (bin) {
                chances[context] = p + ((1023 - p) >> 4);
            } else {
                chances[context] = p - (p >> 4);
            }
            while (range < 256) {
                range = 2 * range;
                shift();
            }
            return bin;
        }

        private boolean free() {
            frees++;
            shift();
            if (value < range) {
                return false;
            }
            value -= range;
            return true;
        }

        private int free(int n) {
            int number = 0;
            for (int i = n - 1; i >= 0; i--) {
                if (free()) {
                    number += 1 << i;
                }
            }
            return number;
        }

        private void leaf(int x0, int y0, int n) {
            int mode;
            if (bin(3)) {
                mode = x0 == 0 ? 1 : modes[y0][x0 - 1];
            } else {
                mode = free(3);
            }
            boolean skip = false;
            int[][] mine = new int[n][n];
            if (bin(n == 4 ? 4 : 5)) {
                if (n == 4) {
                    skip = parameters[2] == 1 && bin(6);
                    group(mine, 0, 0);
                } else {
                    for (int gy = 0; gy <= 4; gy += 4) {
                        for (int gx = 0; gx <= 4; gx += 4) {
                            if (bin(gx + gy == 0 ? 7 : 8)) {
                                group(mine, gx, gy);
                            }
                        }
                    }
                }
            }
            int[][] residual = skip ? skipped(mine) : transformed(mine);
            int[][] guess = new Guess(this, x0, y0, n, mode).all();
            for (int y = 0; y < n; y++) {
                for (int x = 0; x < n; x++) {
                    levels[y0 + y][x0 + x] = mine[y][x];
                    predicted[y0 + y][x0 + x] = guess[y][x];
                    plain[y0 + y][x0 + x] = clamp(guess[y][x] + residual[y][x], 0, 255);
                    modes[y0 + y][x0 + x] = mode;
                    sides[y0 + y][x0 + x] = n;
                }
            }
            leaves++;
        }

        private void group(int[][] mine, int gx, int gy) {
            List<int[]> found = new ArrayList<>();
            int at = 0;
            int sum = 0;
            for (int s = 0; s <= 6; s++) {
                for (int x = 0; x <= 3; x++) {
                    int y = s - x;
                    if (y < 0 || y > 3) {
                        continue;
                    }
                    int around = (x > 0 && mine[gy + y][gx + x - 1] != 0 ? 1 : 0)
                        + (y > 0 && mine[gy + y - 1][gx + x] != 0 ? 1 : 0);
                    if (bin(9 + around)) {
                        int size = size();
                        sum += size;
                        mine[gy + y][gx + x] = size;
                        found.add(new int[] {gx + x, gy + y, at});
                    }
                    at++;
                }
            }
            for (int i = 0; i < found.size(); i++) {
                int[] place = found.get(i);
                boolean below;
                if (i == 0 && parameters[1] == 1 && found.get(found.size() - 1)[2] - place[2] >= 4) {
                    below = sum % 2 == 1;
                } else {
                    below = free();
                }
                if (below) {
                    mine[place[1]][place[0]] *= -1;
                }
            }
        }

        private int size() {
            if (!bin(12)) {
                return 1;
            }
            if (!bin(13)) {
                return 2;
            }
            int k = 0;
            while (k < 6 && free()) {
                k++;
            }
            return 2 + (1 << k) + free(k);
        }

        private int coefficient(int level, int n) {
            int[] s = {40, 45, 51, 57, 64, 72};
            long scaled = (long) level * s[parameters[0] % 6] * (1L << parameters[0] / 6);
            return clamp(n == 4 ? Math.floorDiv(scaled + 1, 2L) : Math.floorDiv(scaled + 2, 4L), -32768, 32767);
        }

        private int[][] skipped(int[][] mine) {
            int[][] residual = new int[4][4];
            for (int y = 0; y < 4; y++) {
                for (int x = 0; x < 4; x++) {
                    residual[y][x] = Math.floorDiv(coefficient(mine[y][x], 4) * 128 + 2048, 4096);
                }
            }
            return residual;
        }

        private static int wave(int i) {
            int[] c = {91, 89, 83, 75, 64, 50, 36, 18, 0};
            if (i > 16) {
                return wave(32 - i);
            }
            return i > 8 ? -c[16 - i] : c[i];
        }

        private static int matrix(int n, int k, int i) {
            int[][] four = {{29, 55, 74, 84}, {74, 74, 0, -74}, {84, -29, -74, 55}, {55, -84, 74, -29}};
            if (n == 4) {
                return four[k][i];
            }
            return k == 0 ? 64 : wave((2 * i + 1) * k % 32);
        }

        private int[][] transformed(int[][] mine) {
            int n = mine.length;
            int[][] g = new int[n][n];
            int[][] residual = new int[n][n];
            for (int y = 0; y < n; y++) {
                for (int x = 0; x < n; x++) {
                    long sum = 0;
                    for (int k = 0; k < n; k++) {
                        sum += (long) matrix(n, k, y) * coefficient(mine[k][x], n);
                    }
                    g[y][x] = clamp(Math.floorDiv(sum + 64, 128L), -32768, 32767);
                }
            }
            for (int y = 0; y < n; y++) {
                for (int x = 0; x < n; x++) {
                    long sum = 0;
                    for (int k = 0; k < n; k++) {
                        sum += (long) matrix(n, k, x) * g[y][k];
                    }
                    residual[y][x] = (int) Math.floorDiv(sum + 2048, 4096L);
                }
            }
            return residual;
        }

        private void edges() {
            for (int y = 0; y < 16; y++) {
                int[] pair = edge(finished[y][6], finished[y][7], finished[y][8], finished[y][9]);
                finished[y][7] = pair[0];
                finished[y][8] = pair[1];
            }
            for (int x = 0; x < 16; x++) {
                int[] pair = edge(finished[6][x], finished[7][x], finished[8][x], finished[9][x]);
                finished[7][x] = pair[0];
                finished[8][x] = pair[1];
            }
        }

        private int[] edge(int p1, int p0, int q0, int q1) {
            int qp = parameters[0];
            if (Math.abs(p1 - p0) + Math.abs(q1 - q0) >= qp) {
                return new int[] {p0, q0};
            }
            int d = Math.floorDiv(9 * (q0 - p0) - 3 * (q1 - p1) + 8, 16);
            int t = 1 + qp / 8;
            if (Math.abs(d) >= 10 * t) {
                return new int[] {p0, q0};
            }
            d = clamp(d, -t, t);
            return new int[] {clamp(p0 + d, 0, 255), clamp(q0 - d, 0, 255)};
        }

        private int[][] withOffsets(int[][] from) {
            int[][] to = copy(from);
            for (int y = 0; y < 16; y++) {
                for (int x = 0; x < 16; x++) {
                    int c = from[y][x];
                    int offset = 0;
                    if (parameters[4] == 1 && inside(x - 1, y) && inside(x + 1, y)) {
                        offset = byNeighbours(from[y][x - 1], c, from[y][x + 1]);
                    }
                    if (parameters[4] == 2 && inside(x, y - 1) && inside(x, y + 1)) {
                        offset = byNeighbours(from[y - 1][x], c, from[y + 1][x]);
                    }
                    if (parameters[4] == 3) {
                        int band = Math.floorMod(c / 32 - parameters[9], 8);
                        offset = band < 4 ? parameters[5 + band] : 0;
                    }
                    to[y][x] = clamp(c + offset, 0, 255);
                }
            }
            return to;
        }

        private int byNeighbours(int a, int c, int b) {
            int greater = (a > c ? 1 : 0) + (b > c ? 1 : 0);
            int less = (a < c ? 1 : 0) + (b < c ? 1 : 0);
            switch (greater - less) {
                case 2:
                    return parameters[5];
                case 1:
                    return parameters[6];
                case -1:
                    return parameters[7];
                case -2:
                    return parameters[8];
                default:
                    return 0;
            }
        }
    }

    /** What is predicted for one leaf. */
    private static final class Guess {
        private final int n;
        private final int mode;
        private final int[] left;
        private final int[] above;
        private int corner;

        Guess(Drawing drawing, int x0, int y0, int n, int mode) {
            this.n = n;
            this.mode = mode;
            left = new int[2 * n];
            above = new int[2 * n];
            List<Integer> line = new ArrayList<>();
            for (int k = 2 * n - 1; k >= 0; k--) {
                line.add(reference(drawing, x0 - 1, y0 + k));
            }
            line.add(reference(drawing, x0 - 1, y0 - 1));
            for (int k = 0; k < 2 * n; k++) {
                line.add(reference(drawing, x0 + k, y0 - 1));
            }
            line = withoutGaps(line);
            if (n == 8 && (mode == 0 || mode == 5 || mode == 7)) {
                line = smoothed(line);
            }
            for (int k = 0; k < 2 * n; k++) {
                left[k] = line.get(2 * n - 1 - k);
                above[k] = line.get(2 * n + 1 + k);
            }
            corner = line.get(2 * n);
        }

        private static Integer reference(Drawing drawing, int x, int y) {
            return Drawing.inside(x, y) && drawing.sides[y][x] > 0 ? drawing.plain[y][x] : null;
        }

        private static List<Integer> withoutGaps(List<Integer> line) {
            List<Integer> full = new ArrayList<>(line);
            if (full.get(0) == null) {
                full.set(0, line.stream().filter(r -> r != null).findFirst().orElse(128));
            }
            for (int i = 1; i < full.size(); i++) {
                if (full.get(i) == null) {
                    full.set(i, full.get(i - 1));
                }
            }
            return full;
        }

        private static List<Integer> smoothed(List<Integer> line) {
            List<Integer> smooth = new ArrayList<>(line);
            for (int i = 1; i + 1 < line.size(); i++) {
                smooth.set(i, (line.get(i - 1) + 2 * line.get(i) + line.get(i + 1) + 2) / 4);
            }
            return smooth;
        }

        int[][] all() {
            int[][] all = new int[n][n];
            for (int y = 0; y < n; y++) {
                for (int x = 0; x < n; x++) {
                    all[y][x] = at(x, y);
                }
            }
            return all;
        }

        private int at(int x, int y) {
            int sum = n;
            int a;
            switch (mode) {
                case 0:
                    return ((n - 1 - x) * left[y] + (x + 1) * above[n] + (n - 1 - y) * above[x]
                        + (y + 1) * left[n] + n) / (2 * n);
                case 1:
                    for (int k = 0; k < n; k++) {
                        sum += left[k] + above[k];
                    }
                    return sum / (2 * n);
                case 2:
                    return left[y];
                case 3:
                    return above[x];
                case 4:
                    a = 13 * (y + 1);
                    return ((32 - a % 32) * above[x + a / 32] + a % 32 * above[x + a / 32 + 1] + 16) / 32;
                case 5:
                    return above[x + y + 1];
                case 6:
                    a = 26 * (x + 1);
                    return ((32 - a % 32) * left[y + a / 32] + a % 32 * left[y + a / 32 + 1] + 16) / 32;
                default:
                    return x > y ? above[x - y - 1] : x < y ? left[y - x - 1] : corner;
            }
        }
    }
}

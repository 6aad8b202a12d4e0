import java.util.Arrays;

/** Decodes still pictures of 16 by 16 grey samples; the words used here are those of the document. */
public final class IntraPicture {
    private static final int WIDTH = 16;
    private static final int SAMPLES = WIDTH * WIDTH;

    private static final int NONE = -1;
    private static final int NO_LEVEL = -1000;
    private static final int NO_PARAMETER = -100;

    private static final int KIND_PARAMETERS = 1;
    private static final int KIND_PICTURE = 2;

    private static final int NO_FAULT = 0;
    private static final int NO_PICTURE = -1;
    private static final int TOO_EARLY = -2;
    private static final int OUT_OF_RANGE = -3;
    private static final int OUT_OF_BITS = -4;

    private static final int QP = 0;
    private static final int HIDE = 1;
    private static final int SKIPS = 2;
    private static final int EDGES = 3;
    private static final int CLASS = 4;
    private static final int FIRST_OFFSET = 5;
    private static final int POSITION = 9;
    private static final int PARAMETERS = 10;

    private final FedBytes fed;
    private final RestBits rest;
    private final Parameters parameters;
    private final BinDecoder bins;
    private final Rows rows;
    private final Picture picture;
    private boolean pictureStands;

    public IntraPicture() {
        fed = new FedBytes();
        rest = new RestBits(fed.chosen);
        parameters = new Parameters(rest);
        bins = new BinDecoder(rest);
        rows = new Rows();
        picture = new Picture(bins, parameters.values, rows);
        pictureStands = false;
    }

    public boolean feed(long v, int n) {
        return fed.append(v, n);
    }

    public void clear() {
        fed.count = 0;
        parameters.there = false;
        pictureStands = false;
    }

    public int units() {
        return fed.countStarts();
    }

    public int payload(int i, int k) {
        if (!fed.choose(i)) {
            return NONE;
        }
        if (k == -1) {
            return fed.chosenLength;
        }
        return k >= 0 && k < fed.chosenLength ? fed.chosen[k] : NONE;
    }

    public int decode() {
        parameters.there = false;
        pictureStands = false;
        boolean found = false;
        int fault = NO_FAULT;
        int count = fed.countStarts();
        for (int i = 0; i < count && fault == NO_FAULT; i++) {
            fed.choose(i);
            rest.rewind(fed.chosenLength);
            int kind = fed.chosenKind();
            if (kind == KIND_PARAMETERS) {
                fault = parameters.readUnit();
            } else if (kind == KIND_PICTURE && !parameters.there) {
                fault = TOO_EARLY;
            } else if (kind == KIND_PICTURE) {
                picture.readUnit();
                found = true;
            }
        }
        if (fault != NO_FAULT) {
            return fault;
        }
        pictureStands = found;
        return found ? picture.leaves : NO_PICTURE;
    }

    public int parameter(int k) {
        return parameters.there && k >= 0 && k < PARAMETERS ? parameters.values[k] : NO_PARAMETER;
    }

    public int sample(int x, int y) {
        return answerAt(rows.samples, x, y, NONE);
    }

    public int plain(int x, int y) {
        return answerAt(rows.plain, x, y, NONE);
    }

    public int predicted(int x, int y) {
        return answerAt(rows.predicted, x, y, NONE);
    }

    public int level(int x, int y) {
        return answerAt(rows.levels, x, y, NO_LEVEL);
    }

    public int mode(int x, int y) {
        return answerAt(rows.modes, x, y, NONE);
    }

    public int side(int x, int y) {
        return answerAt(rows.sides, x, y, NONE);
    }

    public int chance(int k) {
        return pictureStands && k >= 0 && k < BinDecoder.CONTEXTS ? bins.chances[k] : NONE;
    }

    public int took(int k) {
        return pictureStands && k >= 0 && k < BinDecoder.COUNTS ? bins.counts[k] : NONE;
    }

    private int answerAt(int[] row, int x, int y, int otherwise) {
        return pictureStands && inPicture(x, y) ? row[placeOf(x, y)] : otherwise;
    }

    private static boolean inPicture(int x, int y) {
        return x >= 0 && x < WIDTH && y >= 0 && y < WIDTH;
    }

    private static int placeOf(int x, int y) {
        return y * WIDTH + x;
    }

    private static int bring(int number, int least, int most) {
        return Math.max(least, Math.min(most, number));
    }

    /** The bytes that were fed, and the payload of the unit that was chosen last. */
    private static final class FedBytes {
        private static final int MOST = 240;
        private static final int START_LENGTH = 3;

        final int[] bytes = new int[MOST];
        final int[] chosen = new int[MOST];
        int count;
        int chosenLength;

        boolean append(long v, int n) {
            if (n < 1 || n > 8 || count + n > MOST) {
                return false;
            }
            for (int j = 0; j < n; j++) {
                bytes[count + j] = (int) (v >>> 8 * j) & 255;
            }
            count += n;
            return true;
        }

        // Two starts can't overlap (a start ends with 1 and begins with 0), so each place is looked at by itself.
        private boolean startsAt(int i) {
            return i + START_LENGTH <= count && bytes[i] == 0 && bytes[i + 1] == 0 && bytes[i + 2] == 1;
        }

        int countStarts() {
            int starts = 0;
            for (int i = 0; i < count; i++) {
                if (startsAt(i)) {
                    starts++;
                }
            }
            return starts;
        }

        private int firstByteOf(int unit) {
            int starts = 0;
            for (int i = 0; i < count; i++) {
                if (startsAt(i)) {
                    if (starts == unit) {
                        return i + START_LENGTH;
                    }
                    starts++;
                }
            }
            return NONE;
        }

        boolean choose(int unit) {
            int first = firstByteOf(unit);
            chosenLength = 0;
            if (first < 0) {
                return false;
            }
            int zeros = 0;
            for (int i = first; i < count && !startsAt(i); i++) {
                if (zeros >= 2 && bytes[i] == 3) {
                    zeros = 0;
                } else {
                    chosen[chosenLength] = bytes[i];
                    chosenLength++;
                    zeros = bytes[i] == 0 ? zeros + 1 : 0;
                }
            }
            return true;
        }

        int chosenKind() {
            return chosenLength > 0 ? chosen[0] : NONE;
        }
    }

    /** The bits of a payload behind its first byte; beyond their end come zeros. */
    private static final class RestBits {
        private static final int KIND_BITS = 8;

        final int[] bytes;
        int place;
        int end;

        RestBits(int[] bytes) {
            this.bytes = bytes;
        }

        void rewind(int length) {
            place = KIND_BITS;
            end = 8 * length;
        }

        int taken() {
            return place - KIND_BITS;
        }

        boolean atEnd() {
            return place >= end;
        }

        int next() {
            int bit = place < end ? bytes[place >> 3] >> 7 - (place & 7) & 1 : 0;
            place++;
            return bit;
        }
    }

    /** The parameters of the latest unit of them that had no fault. */
    private static final class Parameters {
        private static final int MOST_ZEROS = 7;

        final RestBits rest;
        final int[] values = new int[PARAMETERS];
        final int[] coming = new int[PARAMETERS];
        boolean there;
        int fault;

        Parameters(RestBits rest) {
            this.rest = rest;
        }

        int readUnit() {
            fault = NO_FAULT;
            Arrays.fill(coming, 0);
            coming[QP] = checked(code(), 0, 51);
            coming[HIDE] = number(1);
            coming[SKIPS] = number(1);
            coming[EDGES] = number(1);
            coming[CLASS] = number(2);
            if (coming[CLASS] != 0) {
                for (int k = 0; k < 4; k++) {
                    coming[FIRST_OFFSET + k] = checked(signedCode(), -7, 7);
                }
            }
            if (coming[CLASS] == 3) {
                coming[POSITION] = number(3);
            }
            if (fault == NO_FAULT) {
                System.arraycopy(coming, 0, values, 0, PARAMETERS);
                there = true;
            }
            return fault;
        }

        // The first fault is the one that counts; what is read behind it is thrown away.
        private void blame(int newFault) {
            if (fault == NO_FAULT) {
                fault = newFault;
            }
        }

        private int checked(int number, int least, int most) {
            if (number < least || number > most) {
                blame(OUT_OF_RANGE);
            }
            return number;
        }

        private int number(int bits) {
            int number = 0;
            for (int i = 0; i < bits; i++) {
                if (rest.atEnd()) {
                    blame(OUT_OF_BITS);
                }
                number = 2 * number + rest.next();
            }
            return number;
        }

        private int code() {
            int zeros = 0;
            while (zeros < MOST_ZEROS && number(1) == 0) {
                zeros++;
            }
            if (zeros == MOST_ZEROS) {
                blame(OUT_OF_RANGE);
                return 0;
            }
            return (1 << zeros) - 1 + number(zeros);
        }

        private int signedCode() {
            int u = code();
            return (u & 1) == 1 ? (u + 1) / 2 : -u / 2;
        }
    }

    /** The arithmetic decoder, with its contexts and the counts of what a picture took. */
    private static final class BinDecoder {
        static final int CONTEXTS = 14;
        static final int COUNTS = 3;

        private static final int BINS = 0;
        private static final int FREE_BITS = 1;
        private static final int BITS_READ = 2;

        final RestBits rest;
        final int[] chances = new int[CONTEXTS];
        final int[] counts = new int[COUNTS];
        int range;
        int value;

        BinDecoder(RestBits rest) {
            this.rest = rest;
        }

        void begin() {
            Arrays.fill(chances, 512);
            Arrays.fill(counts, 0);
            range = 510;
            value = 0;
            for (int i = 0; i < 8; i++) {
                value = 2 * value + rest.next();
            }
        }

        // The bits are used again for the next unit, so what was taken of them is kept here.
        void end() {
            counts[BITS_READ] = rest.taken();
        }

        int bin(int context) {
            int chance = chances[context];
            int likely = chance >= 512 ? 1 : 0;
            int u = (likely == 1 ? 1023 - chance : chance) >> 5;
            int part = ((range >> 5) * u >> 1) + 4;
            int bin = likely;
            range -= part;
            if (value >= range) {
                value -= range;
                range = part;
                bin = 1 - likely;
            }
            chances[context] = bin == 1 ? chance + (1023 - chance >> 4) : chance - (chance >> 4);
            // A range is never below 4, so six doublings are enough.
            for (int i = 0; i < 6 && range < 256; i++) {
                range *= 2;
                value = 2 * value + rest.next();
            }
            counts[BINS]++;
            return bin;
        }

        int freeBits(int bits) {
            int number = 0;
            for (int i = 0; i < bits; i++) {
                value = 2 * value + rest.next();
                int bit = value >= range ? 1 : 0;
                value -= bit * range;
                number = 2 * number + bit;
            }
            counts[FREE_BITS] += bits;
            return number;
        }
    }

    /** The leaf that is being decoded. */
    private static final class Leaf {
        int x;
        int y;
        int side;
        int mode;
        boolean skip;

        void moveTo(int newX, int newY, int newSide) {
            x = newX;
            y = newY;
            side = newSide;
            skip = false;
        }

        int placeInPicture(int dx, int dy) {
            return placeOf(x + dx, y + dy);
        }
    }

    /** What the latest picture holds, sample by sample. */
    private static final class Rows {
        final int[] samples = new int[SAMPLES];
        final int[] plain = new int[SAMPLES];
        final int[] predicted = new int[SAMPLES];
        final int[] levels = new int[SAMPLES];
        final int[] modes = new int[SAMPLES];
        // 0 where no leaf is yet: so this row also tells which references are there.
        final int[] sides = new int[SAMPLES];
    }

    /** Fills the rows from a picture's unit, one leaf behind the other. */
    private static final class Picture {
        private static final int SAME_CONTEXT = 3;

        final BinDecoder bins;
        final int[] parameters;
        final Rows rows;
        final Leaf leaf = new Leaf();
        final LevelReader levelReader;
        final Residuals residuals;
        final Predictor predictor;
        final Finish finish;
        int leaves;

        Picture(BinDecoder bins, int[] parameters, Rows rows) {
            this.bins = bins;
            this.parameters = parameters;
            this.rows = rows;
            levelReader = new LevelReader(bins, rows.levels);
            residuals = new Residuals(rows.levels);
            predictor = new Predictor(rows);
            finish = new Finish(rows.samples);
        }

        void readUnit() {
            leaves = 0;
            Arrays.fill(rows.sides, 0);
            bins.begin();
            for (int block = 0; block < 4; block++) {
                int x = 8 * (block & 1);
                int y = 8 * (block >> 1);
                boolean split = bins.bin(splitAt(x - 1, y) + splitAt(x, y - 1)) == 1;
                int parts = split ? 4 : 1;
                for (int part = 0; part < parts; part++) {
                    leaf.moveTo(x + 4 * (part & 1), y + 4 * (part >> 1), split ? 4 : 8);
                    leaf.mode = bins.bin(SAME_CONTEXT) == 1 ? modeToTheLeft() : bins.freeBits(3);
                    levelReader.readLeaf(leaf, parameters);
                    buildLeaf();
                }
                leaves += parts;
            }
            bins.end();
            System.arraycopy(rows.plain, 0, rows.samples, 0, SAMPLES);
            finish.apply(parameters);
        }

        private int splitAt(int x, int y) {
            return inPicture(x, y) && rows.sides[placeOf(x, y)] == 4 ? 1 : 0;
        }

        private void buildLeaf() {
            residuals.compute(leaf, parameters[QP]);
            predictor.predict(leaf);
            for (int dy = 0; dy < leaf.side; dy++) {
                for (int dx = 0; dx < leaf.side; dx++) {
                    int place = leaf.placeInPicture(dx, dy);
                    int residual = residuals.result[dy * leaf.side + dx];
                    rows.plain[place] = bring(rows.predicted[place] + residual, 0, 255);
                    rows.modes[place] = leaf.mode;
                    rows.sides[place] = leaf.side;
                }
            }
        }

        private int modeToTheLeft() {
            return leaf.x == 0 ? 1 : rows.modes[leaf.placeInPicture(-1, 0)];
        }
    }

    /** Reads the levels of a leaf, group by group. */
    private static final class LevelReader {
        private static final int CODED_CONTEXT_4 = 4;
        private static final int CODED_CONTEXT_8 = 5;
        private static final int SKIP_CONTEXT = 6;
        private static final int FIRST_FILLED_CONTEXT = 7;
        private static final int NEXT_FILLED_CONTEXT = 8;
        private static final int NOTZERO_CONTEXT = 9;
        private static final int TWO_CONTEXT = 12;
        private static final int THREE_CONTEXT = 13;
        private static final int PLACES = 16;

        // Places 4 * y + x, by rising x + y and then by rising x.
        private static final int[] ORDER = {0, 4, 1, 8, 5, 2, 12, 9, 6, 3, 13, 10, 7, 14, 11, 15};

        final BinDecoder bins;
        final int[] levels;
        final int[] group = new int[PLACES];
        int first;
        int last;
        int sum;

        LevelReader(BinDecoder bins, int[] levels) {
            this.bins = bins;
            this.levels = levels;
        }

        void readLeaf(Leaf leaf, int[] parameters) {
            boolean large = leaf.side == 8;
            boolean coded = bins.bin(large ? CODED_CONTEXT_8 : CODED_CONTEXT_4) == 1;
            if (coded && !large && parameters[SKIPS] == 1) {
                leaf.skip = bins.bin(SKIP_CONTEXT) == 1;
            }
            int groups = large ? 4 : 1;
            for (int g = 0; g < groups; g++) {
                int filledContext = g == 0 ? FIRST_FILLED_CONTEXT : NEXT_FILLED_CONTEXT;
                if (coded && (!large || bins.bin(filledContext) == 1)) {
                    readSizes();
                    readSigns(parameters[HIDE] == 1 && last - first >= 4);
                } else {
                    Arrays.fill(group, 0);
                }
                keepGroup(leaf.placeInPicture(4 * (g & 1), 4 * (g >> 1)));
            }
        }

        private void readSizes() {
            first = NONE;
            last = NONE;
            sum = 0;
            for (int i = 0; i < PLACES; i++) {
                int place = ORDER[i];
                group[place] = 0;
                if (bins.bin(NOTZERO_CONTEXT + notZeroBefore(place)) == 1) {
                    group[place] = readSize();
                    sum += group[place];
                    first = first < 0 ? i : first;
                    last = i;
                }
            }
        }

        private int notZeroBefore(int place) {
            int left = (place & 3) > 0 && group[place - 1] != 0 ? 1 : 0;
            int above = place >= 4 && group[place - 4] != 0 ? 1 : 0;
            return left + above;
        }

        private int readSize() {
            if (bins.bin(TWO_CONTEXT) == 0) {
                return 1;
            }
            if (bins.bin(THREE_CONTEXT) == 0) {
                return 2;
            }
            int k = 0;
            while (k < 6 && bins.freeBits(1) == 1) {
                k++;
            }
            return 2 + (1 << k) + bins.freeBits(k);
        }

        private void readSigns(boolean firstIsHidden) {
            for (int i = 0; i < PLACES; i++) {
                int place = ORDER[i];
                if (group[place] != 0) {
                    int sign = firstIsHidden && i == first ? sum & 1 : bins.freeBits(1);
                    group[place] = sign == 1 ? -group[place] : group[place];
                }
            }
        }

        private void keepGroup(int corner) {
            for (int place = 0; place < PLACES; place++) {
                levels[corner + (place >> 2) * WIDTH + (place & 3)] = group[place];
            }
        }
    }

    /** Turns the levels of a leaf into residuals. */
    private static final class Residuals {
        private static final int LEAST = -32768;
        private static final int MOST = 32767;
        private static final int[] SCALES = {40, 45, 51, 57, 64, 72};
        private static final int[] MATRIX_4 = {29, 55, 74, 84, 74, 74, 0, -74, 84, -29, -74, 55, 55, -84, 74, -29};
        private static final int[] WAVE = {
            91, 89, 83, 75, 64, 50, 36, 18, 0, -18, -36, -50, -64, -75, -83, -89,
            -91, -89, -83, -75, -64, -50, -36, -18, 0, 18, 36, 50, 64, 75, 83, 89};

        final int[] levels;
        final int[] coefficients = new int[64];
        final int[] between = new int[64];
        final int[] result = new int[64];

        Residuals(int[] levels) {
            this.levels = levels;
        }

        void compute(Leaf leaf, int qp) {
            scaleLevels(leaf, qp);
            if (leaf.skip) {
                scaleWithoutMatrix(leaf.side);
            } else {
                goThroughColumns(leaf.side);
                goThroughRows(leaf.side);
            }
        }

        private void scaleLevels(Leaf leaf, int qp) {
            int shift = leaf.side == 4 ? 1 : 2;
            int half = 1 << shift - 1;
            for (int y = 0; y < leaf.side; y++) {
                for (int x = 0; x < leaf.side; x++) {
                    int scaled = levels[leaf.placeInPicture(x, y)] * SCALES[qp % 6] << qp / 6;
                    coefficients[y * leaf.side + x] = bring(scaled + half >> shift, LEAST, MOST);
                }
            }
        }

        private void scaleWithoutMatrix(int side) {
            for (int i = 0; i < side * side; i++) {
                result[i] = coefficients[i] * 128 + 2048 >> 12;
            }
        }

        private static int matrix(int side, int k, int n) {
            if (side == 4) {
                return MATRIX_4[4 * k + n];
            }
            return k == 0 ? 64 : WAVE[(2 * n + 1) * k % 32];
        }

        private void goThroughColumns(int side) {
            for (int y = 0; y < side; y++) {
                for (int x = 0; x < side; x++) {
                    int sum = 64;
                    for (int k = 0; k < side; k++) {
                        sum += matrix(side, k, y) * coefficients[k * side + x];
                    }
                    between[y * side + x] = bring(sum >> 7, LEAST, MOST);
                }
            }
        }

        private void goThroughRows(int side) {
            for (int y = 0; y < side; y++) {
                for (int x = 0; x < side; x++) {
                    int sum = 2048;
                    for (int k = 0; k < side; k++) {
                        sum += matrix(side, k, x) * between[y * side + k];
                    }
                    result[y * side + x] = sum >> 12;
                }
            }
        }
    }

    /** Predicts a leaf from the samples round it. */
    private static final class Predictor {
        private static final int MOST_REFERENCES = 33;

        final Rows rows;
        // From LEFT(2N - 1) to LEFT(0), the CORNER, ABOVE(0) to ABOVE(2N - 1).
        final int[] references = new int[MOST_REFERENCES];
        final int[] unsmoothed = new int[MOST_REFERENCES];
        int side;

        Predictor(Rows rows) {
            this.rows = rows;
        }

        void predict(Leaf leaf) {
            side = leaf.side;
            collect(leaf);
            fillGaps();
            if (side == 8 && (leaf.mode == 0 || leaf.mode == 5 || leaf.mode == 7)) {
                smooth();
            }
            int mean = leaf.mode == 1 ? mean() : 0;
            for (int y = 0; y < side; y++) {
                for (int x = 0; x < side; x++) {
                    int sample = leaf.mode == 1 ? mean : predictAt(leaf.mode, x, y);
                    rows.predicted[leaf.placeInPicture(x, y)] = sample;
                }
            }
        }

        private int left(int k) {
            return references[2 * side - 1 - k];
        }

        private int above(int k) {
            return references[2 * side + 1 + k];
        }

        private int corner() {
            return references[2 * side];
        }

        private void collect(Leaf leaf) {
            for (int i = 0; i <= 4 * side; i++) {
                int x = leaf.x + Math.max(-1, i - 2 * side - 1);
                int y = leaf.y + Math.max(-1, 2 * side - 1 - i);
                boolean there = inPicture(x, y) && rows.sides[placeOf(x, y)] != 0;
                references[i] = there ? rows.plain[placeOf(x, y)] : NONE;
            }
        }

        private void fillGaps() {
            int before = 128;
            for (int i = 4 * side; i >= 0; i--) {
                before = references[i] == NONE ? before : references[i];
            }
            for (int i = 0; i <= 4 * side; i++) {
                before = references[i] == NONE ? before : references[i];
                references[i] = before;
            }
        }

        private void smooth() {
            System.arraycopy(references, 0, unsmoothed, 0, MOST_REFERENCES);
            for (int i = 1; i < 4 * side; i++) {
                references[i] = unsmoothed[i - 1] + 2 * unsmoothed[i] + unsmoothed[i + 1] + 2 >> 2;
            }
        }

        private int mean() {
            int sum = side;
            for (int k = 0; k < side; k++) {
                sum += left(k) + above(k);
            }
            return sum / (2 * side);
        }

        private int predictAt(int mode, int x, int y) {
            switch (mode) {
                case 0:
                    return plane(x, y);
                case 2:
                    return left(y);
                case 3:
                    return above(x);
                case 4:
                    return steep(x, 13 * (y + 1));
                case 5:
                    return above(x + y + 1);
                case 6:
                    return flat(y, 26 * (x + 1));
                default:
                    return diagonal(x, y);
            }
        }

        private int plane(int x, int y) {
            int across = (side - 1 - x) * left(y) + (x + 1) * above(side);
            int down = (side - 1 - y) * above(x) + (y + 1) * left(side);
            return (across + down + side) / (2 * side);
        }

        private int steep(int x, int a) {
            int k = x + (a >> 5);
            return blend(above(k), above(k + 1), a & 31);
        }

        private int flat(int y, int a) {
            int k = y + (a >> 5);
            return blend(left(k), left(k + 1), a & 31);
        }

        private static int blend(int near, int far, int f) {
            return (32 - f) * near + f * far + 16 >> 5;
        }

        private int diagonal(int x, int y) {
            if (x == y) {
                return corner();
            }
            return x > y ? above(x - y - 1) : left(y - x - 1);
        }
    }

    /** Smooths the edges of a picture whose leaves are all there, and adds the offsets. */
    private static final class Finish {
        private static final int ACROSS = 1;
        private static final int DOWN = WIDTH;

        final int[] samples;
        final int[] before = new int[SAMPLES];

        Finish(int[] samples) {
            this.samples = samples;
        }

        void apply(int[] parameters) {
            if (parameters[EDGES] == 1) {
                for (int y = 0; y < WIDTH; y++) {
                    smoothEdge(placeOf(8, y), ACROSS, parameters[QP]);
                }
                for (int x = 0; x < WIDTH; x++) {
                    smoothEdge(placeOf(x, 8), DOWN, parameters[QP]);
                }
            }
            if (parameters[CLASS] != 0) {
                addOffsets(parameters);
            }
        }

        private void smoothEdge(int place, int step, int qp) {
            int p1 = samples[place - 2 * step];
            int p0 = samples[place - step];
            int q0 = samples[place];
            int q1 = samples[place + step];
            int most = 1 + qp / 8;
            int d = 9 * (q0 - p0) - 3 * (q1 - p1) + 8 >> 4;
            if (Math.abs(p1 - p0) + Math.abs(q1 - q0) < qp && Math.abs(d) < 10 * most) {
                d = bring(d, -most, most);
                samples[place - step] = bring(p0 + d, 0, 255);
                samples[place] = bring(q0 - d, 0, 255);
            }
        }

        private void addOffsets(int[] parameters) {
            System.arraycopy(samples, 0, before, 0, SAMPLES);
            for (int y = 0; y < WIDTH; y++) {
                for (int x = 0; x < WIDTH; x++) {
                    int number = offsetNumber(parameters, x, y);
                    if (number >= 0) {
                        int place = placeOf(x, y);
                        samples[place] = bring(before[place] + parameters[FIRST_OFFSET + number], 0, 255);
                    }
                }
            }
        }

        private int offsetNumber(int[] parameters, int x, int y) {
            int place = placeOf(x, y);
            switch (parameters[CLASS]) {
                case 1:
                    return x > 0 && x < WIDTH - 1 ? numberByNeighbours(place, ACROSS) : NONE;
                case 2:
                    return y > 0 && y < WIDTH - 1 ? numberByNeighbours(place, DOWN) : NONE;
                default:
                    int band = (before[place] >> 5) - parameters[POSITION] & 7;
                    return band < 4 ? band : NONE;
            }
        }

        private int numberByNeighbours(int place, int step) {
            int c = before[place];
            int balance = Integer.compare(before[place - step], c) + Integer.compare(before[place + step], c);
            switch (balance) {
                case 2:
                    return 0;
                case 1:
                    return 1;
                case -1:
                    return 2;
                case -2:
                    return 3;
                default:
                    return NONE;
            }
        }
    }
}

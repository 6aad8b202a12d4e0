/** EDGES, OFFSETS and promise 8: the samples when edges have been smoothed and offsets added. */
public final class FinishTest {
    private static final Check CHECK = new Check("FinishTest");
    private static final Bits EDGES_QP_22 = Bits.head(22, 0, 0, 1, 0);
    private static final Bits EDGES_QP_4 = Bits.head(4, 0, 1, 1, 0);

    public static void main(String[] args) {
        CHECK.runAll(FinishTest.class);
        CHECK.end();
    }

    /** Left half 128, right half that plus a step. With QP 22 a level is its own residual all over a large leaf. */
    private static Subject upright(Bits parameters, int level) {
        PictureWriter picture = Pictures.greyBlock(new PictureWriter(false, false));
        picture.block(false).leaf(1, Pictures.one(8, 0, 0, level));
        picture.block(false).leaf(2, null).block(false).leaf(3, null);
        Subject x = Pictures.decoded(CHECK, "upright", parameters, picture, 7);
        int high = x.plain(8, 0);
        for (int i = 0; i < 256; i++) {
            CHECK.due("plain", x.plain(i % 16, i / 16), i % 16 < 8 ? 128 : high);
        }
        return x;
    }

    /** Upper half 128, lower half that plus a step. */
    private static Subject lying(Bits parameters, int level) {
        PictureWriter picture = Pictures.greyBlock(new PictureWriter(false, false));
        picture.block(false).leaf(1, null);
        picture.block(false).leaf(1, Pictures.one(8, 0, 0, level)).block(false).leaf(2, null);
        Subject x = Pictures.decoded(CHECK, "lying", parameters, picture, 7);
        int high = x.plain(0, 8);
        for (int i = 0; i < 256; i++) {
            CHECK.due("plain", x.plain(i % 16, i / 16), i < 128 ? 128 : high);
        }
        return x;
    }

    private static void columnsAre(String name, Subject x, int step, int p0, int q0) {
        for (int i = 0; i < 256; i++) {
            int column = i % 16;
            int due = column == 7 ? p0 : column == 8 ? q0 : column < 8 ? 128 : 128 + step;
            CHECK.due(name + ": sample(" + column + ", " + i / 16 + ")", x.sample(column, i / 16), due);
        }
    }

    private static void rowsAre(String name, Subject x, int step, int p0, int q0) {
        for (int i = 0; i < 256; i++) {
            int row = i / 16;
            int due = row == 7 ? p0 : row == 8 ? q0 : row < 8 ? 128 : 128 + step;
            CHECK.due(name + ": sample(" + i % 16 + ", " + row + ")", x.sample(i % 16, row), due);
        }
    }

    private static void bothWays(String name, int step, int p0, int q0) {
        columnsAre(name, upright(EDGES_QP_22, step), step, p0, q0);
        rowsAre(name, lying(EDGES_QP_22, step), step, p0, q0);
    }

    /** All samples are the base but for p1, p0, q0, q1 in row 2. With QP 4 a skipped residual is its level. */
    private static Subject inARow(Bits parameters, int base, int p1, int p0, int q0, int q1) {
        int[][] left = Pictures.one(4, 2, 2, p1 - base);
        left[2][3] = p0 - base;
        int[][] right = Pictures.one(4, 0, 2, q0 - base);
        right[2][1] = q1 - base;
        PictureWriter picture = new PictureWriter(false, true).block(true).leaf(1, true, Pictures.all(4, base - 128));
        picture.leaf(2, true, left).leaf(3, null).leaf(2, null);
        picture.block(true).leaf(3, true, right).leaf(3, null).leaf(3, null).leaf(3, null);
        picture.block(false).leaf(3, null).block(false).leaf(3, null);
        Subject x = Pictures.decoded(CHECK, "in a row", parameters, picture, 10);
        int[] due = {p1, p0, q0, q1};
        for (int i = 0; i < 256; i++) {
            boolean inRow = i / 16 == 2 && i % 16 >= 6 && i % 16 <= 9;
            CHECK.due("plain(" + i % 16 + ", " + i / 16 + ")", x.plain(i % 16, i / 16), inRow ? due[i % 16 - 6] : base);
        }
        return x;
    }

    /** The same in column 2. */
    private static Subject inAColumn(Bits parameters, int base, int p1, int p0, int q0, int q1) {
        int[][] upper = Pictures.one(4, 2, 2, p1 - base);
        upper[3][2] = p0 - base;
        int[][] lower = Pictures.one(4, 2, 0, q0 - base);
        lower[1][2] = q1 - base;
        PictureWriter picture = new PictureWriter(false, true).block(true).leaf(1, true, Pictures.all(4, base - 128));
        picture.leaf(2, null).leaf(3, true, upper).leaf(3, null).block(false).leaf(3, null);
        picture.block(true).leaf(2, true, lower).leaf(3, null).leaf(2, null).leaf(3, null);
        picture.block(false).leaf(3, null);
        Subject x = Pictures.decoded(CHECK, "in a column", parameters, picture, 10);
        int[] due = {p1, p0, q0, q1};
        for (int i = 0; i < 256; i++) {
            boolean inColumn = i % 16 == 2 && i / 16 >= 6 && i / 16 <= 9;
            CHECK.due("plain(" + i % 16 + ", " + i / 16 + ")", x.plain(i % 16, i / 16), inColumn ? due[i / 16 - 6] : base);
        }
        return x;
    }

    /** Both ways, with QP 4: what p0 and q0 become. */
    private static void become(int base, int p1, int p0, int q0, int q1, int p0Due, int q0Due) {
        String name = p1 + " " + p0 + " " + q0 + " " + q1;
        Subject x = inARow(EDGES_QP_4, base, p1, p0, q0, q1);
        CHECK.due(name + ": sample(6, 2)", x.sample(6, 2), p1);
        CHECK.due(name + ": sample(7, 2)", x.sample(7, 2), p0Due);
        CHECK.due(name + ": sample(8, 2)", x.sample(8, 2), q0Due);
        CHECK.due(name + ": sample(9, 2)", x.sample(9, 2), q1);
        x = inAColumn(EDGES_QP_4, base, p1, p0, q0, q1);
        CHECK.due(name + ": sample(2, 6)", x.sample(2, 6), p1);
        CHECK.due(name + ": sample(2, 7)", x.sample(2, 7), p0Due);
        CHECK.due(name + ": sample(2, 8)", x.sample(2, 8), q0Due);
        CHECK.due(name + ": sample(2, 9)", x.sample(2, 9), q1);
    }

    @Says("EDGES. When all leaves are there and EDGES is 1:")
    static void withoutEdgesNothingIsSmoothed() {
        columnsAre("EDGES 0", upright(Bits.head(22, 0, 0, 0, 0), 6), 6, 128, 134);
        rowsAre("EDGES 0", lying(Bits.head(22, 0, 0, 0, 0), 6), 6, 128, 134);
        columnsAre("EDGES 1", upright(EDGES_QP_22, 6), 6, 130, 132);
        rowsAre("EDGES 1", lying(EDGES_QP_22, 6), 6, 130, 132);
        // The leaves below and to the right are predicted from what was there before.
        Subject x = upright(EDGES_QP_22, 6);
        for (int y = 8; y < 16; y++) {
            CHECK.due("predicted(7, " + y + ")", x.predicted(7, y), 128);
            CHECK.due("predicted(8, " + y + ")", x.predicted(8, y), 134);
        }
    }

    @Says("first for y = 0 .. 15 the samples p1, p0, q0, q1 at x = 6, 7, 8, 9 of row y, then for x = 0 .. 15 those "
        + "at y = 6, 7, 8, 9 of column x:")
    static void rowsComeBeforeColumns() {
        bothWays("from end to end", 20, 131, 145);
        // Only the last block differs: what the rows made of it is what the columns begin with.
        PictureWriter picture = Pictures.greyBlock(new PictureWriter(false, false));
        picture.block(false).leaf(1, null).block(false).leaf(1, null).block(false).leaf(1, Pictures.one(8, 0, 0, 20));
        Subject x = Pictures.decoded(CHECK, "crossing", EDGES_QP_22, picture, 7);
        // Rows 8 .. 15: 131 and 145 at x = 7 and 8. Then column 7: 128, 128, 131, 131: 6 * 3 + 8 >> 4 is 1.
        CHECK.due("sample(7, 7)", x.sample(7, 7), 129);
        CHECK.due("sample(7, 8)", x.sample(7, 8), 130);
        // Column 8: 128, 128, 145, 145: D is 110 >> 4, which is 6, brought to 3.
        CHECK.due("sample(8, 7)", x.sample(8, 7), 131);
        CHECK.due("sample(8, 8)", x.sample(8, 8), 142);
        CHECK.due("sample(9, 7)", x.sample(9, 7), 131);
        CHECK.due("sample(9, 8)", x.sample(9, 8), 145);
        CHECK.due("sample(7, 9)", x.sample(7, 9), 131);
        CHECK.due("sample(8, 9)", x.sample(8, 9), 145);
        CHECK.due("sample(6, 6)", x.sample(6, 6), 128);
        CHECK.due("sample(15, 15)", x.sample(15, 15), 148);
    }

    @Says("if |p1 - p0| + |q1 - q0| is below QP:")
    static void sidesThatAreTooUneven() {
        // QP is 4: a sum of 3 is below it, a sum of 4 is not.
        // D is 17 >> 4 or 20 >> 4, which is 1, or -1 >> 4 or -4 >> 4, which is -1.
        become(128, 131, 128, 128, 128, 129, 127);
        become(128, 132, 128, 128, 128, 128, 128);
        become(128, 125, 128, 128, 128, 127, 129);
        become(128, 124, 128, 128, 128, 128, 128);
        become(128, 128, 128, 128, 131, 127, 129);
        become(128, 128, 128, 128, 132, 128, 128);
        become(128, 128, 128, 128, 125, 129, 127);
        become(128, 128, 128, 128, 124, 128, 128);
        become(128, 130, 128, 128, 127, 129, 127);
        become(128, 130, 128, 128, 126, 128, 128);
        become(128, 127, 128, 128, 130, 127, 129);
        become(128, 126, 128, 128, 130, 128, 128);
    }

    @Says("if |p1 - p0| + |q1 - q0| is below QP:")
    static void nothingIsBelowAQpOf0() {
        // Even sides, a sum of 0: with QP 0 nothing is smoothed, with QP 1 it is.
        Subject x = upright(Bits.head(0, 0, 0, 1, 0), 129);
        CHECK.due("QP 0: the step", x.plain(8, 0), 138);
        columnsAre("QP 0", x, 10, 128, 138);
        x = upright(Bits.head(1, 0, 0, 1, 0), 129);
        CHECK.due("QP 1: the step", x.plain(8, 0), 139);
        columnsAre("QP 1", x, 11, 129, 138);
        rowsAre("QP 0", lying(Bits.head(0, 0, 0, 1, 0), 129), 10, 128, 138);
        rowsAre("QP 1", lying(Bits.head(1, 0, 0, 1, 0), 129), 11, 129, 138);
    }

    @Says({"with D = 9 * (q0 - p0) - 3 * (q1 - p1) + 8 >> 4", "(>> binds less than + and -, more than &, as in Java.)"})
    static void differencesAreRounded() {
        // A step of 1 is 14 >> 4, of 2 is 20 >> 4, of 4 is 32 >> 4; -1 is 2 >> 4, -2 is -4 >> 4, -4 is -16 >> 4.
        bothWays("step 1", 1, 128, 129);
        bothWays("step 2", 2, 129, 129);
        bothWays("step -1", -1, 128, 127);
        bothWays("step -2", -2, 127, 127);
        bothWays("step 4", 4, 130, 130);
        bothWays("step -4", -4, 127, 125);
        // p1 or q1 alone: 3 * 2 + 8 is 14, 3 * 3 + 8 is 17; -3 * 2 + 8 is 2, -3 * 3 + 8 is -1.
        become(128, 130, 128, 128, 128, 128, 128);
        become(128, 131, 128, 128, 128, 129, 127);
        become(128, 126, 128, 128, 128, 128, 128);
        become(128, 125, 128, 128, 128, 127, 129);
        // All four: 9 * 2 - 3 * 4 + 8 is 14; 9 * 2 - 3 * 3 + 8 is 17.
        become(128, 127, 128, 130, 131, 128, 130);
        become(128, 128, 128, 130, 131, 129, 129);
    }

    @Says("and T = 1 + QP / 8,")
    static void eachT() {
        int[] qps = {7, 8, 15, 16, 23, 24, 31, 32, 39, 40, 47, 48, 51};
        // Levels that make steps of some 20 each.
        int[] levels = {113, 100, 35, 40, 20, 16, 6, 6, 3, 3, 1, 1, 1};
        for (int i = 0; i < qps.length; i++) {
            int t = 1 + qps[i] / 8;
            Subject x = upright(Bits.head(qps[i], 0, 0, 1, 0), levels[i]);
            int step = x.plain(8, 0) - 128;
            int d = 6 * step + 8 >> 4;
            CHECK.due("QP " + qps[i] + ": step " + step + " is steep enough and not too steep", d > t && d < 10 * t, true);
            columnsAre("QP " + qps[i], x, step, 128 + t, 128 + step - t);
        }
    }

    @Says("if |D| is below 10 * T:")
    static void stepsThatAreTooSteep() {
        // T is 3. 6 * 78 + 8 >> 4 is 29, 6 * 79 + 8 >> 4 is 30; -468 + 8 >> 4 is -29, -474 + 8 >> 4 is -30.
        bothWays("step 78", 78, 131, 203);
        bothWays("step 79", 79, 128, 207);
        bothWays("step -78", -78, 125, 53);
        bothWays("step -79", -79, 128, 49);
        // T is 1, in one row. 6 * 25 + 8 >> 4 is 9, 6 * 26 + 8 >> 4 is 10.
        become(128, 128, 128, 153, 153, 129, 152);
        become(128, 128, 128, 154, 154, 128, 154);
        become(128, 128, 128, 103, 103, 127, 104);
        become(128, 128, 128, 102, 102, 128, 102);
    }

    @Says("D is brought to -T .. T, p0 becomes p0 + D and q0 becomes q0 - D,")
    static void differencesAreBroughtToT() {
        // T is 3. 6 * 6 + 8 >> 4 is 2; 7 and 9 are 3; 10 is 4. -6 * 6 + 8 >> 4 is -2; -9 is -3; -10 is -4.
        bothWays("step 6", 6, 130, 132);
        bothWays("step 7", 7, 131, 132);
        bothWays("step 9", 9, 131, 134);
        bothWays("step 10", 10, 131, 135);
        bothWays("step 20", 20, 131, 145);
        bothWays("step -6", -6, 126, 124);
        bothWays("step -9", -9, 125, 122);
        bothWays("step -10", -10, 125, 121);
        bothWays("step -20", -20, 125, 111);
    }

    @Says("both brought to 0 .. 255.")
    static void smoothedSamplesStayInTheirRange() {
        // D is 1 where p1 is 3 more than q1, and -1 where it is 3 less.
        become(255, 255, 255, 255, 252, 255, 254);
        become(255, 252, 255, 255, 255, 254, 255);
        become(0, 0, 0, 0, 3, 0, 1);
        become(0, 3, 0, 0, 0, 1, 0);
        become(254, 254, 254, 254, 251, 255, 253);
        become(1, 1, 1, 1, 4, 0, 2);
    }

    /** A picture of small leaves with many different samples, and with slopes at all rims. */
    private static Subject uneven(Bits parameters) {
        PictureWriter picture = new PictureWriter(false, true);
        for (int i = 0; i < 16; i++) {
            if (i % 4 == 0) {
                picture.block(true);
            }
            int[][] levels = Pictures.one(4, 0, i % 3, 9 + i);
            levels[3][3] = 3 - i;
            levels[0][3] = i % 2 == 0 ? 4 : -5;
            levels[2][1] = -6;
            picture.leaf(i == 0 ? 1 : i % 8, true, levels);
        }
        return Pictures.decoded(CHECK, "uneven", parameters, picture, 16);
    }

    /** By how many of a and b are greater than c less how many are less: from -2 to 2. */
    private static int balance(int a, int c, int b) {
        return (a > c ? 1 : 0) + (b > c ? 1 : 0) - (a < c ? 1 : 0) - (b < c ? 1 : 0);
    }

    private static void byNeighbours(int offsetClass, int across, int down) {
        int[] offsets = {-4, -3, 0, 2, 1};
        Subject x = uneven(Bits.head(4, 0, 1, 0, offsetClass).offsets(1, 2, -3, -4));
        int[] seen = new int[5];
        int rims = 0;
        for (int i = 0; i < 256; i++) {
            int atX = i % 16;
            int atY = i / 16;
            int c = x.plain(atX, atY);
            int a = x.plain(atX - across, atY - down);
            int b = x.plain(atX + across, atY + down);
            boolean both = a != -1 && b != -1;
            int balance = both ? balance(a, c, b) : 0;
            int due = Math.max(0, Math.min(255, c + offsets[2 + balance]));
            CHECK.due("sample(" + atX + ", " + atY + ")", x.sample(atX, atY), due);
            seen[2 + balance] += both ? 1 : 0;
            rims += !both && (a == -1 ? b : a) != c ? 1 : 0;
        }
        for (int k = 0; k < 5; k++) {
            CHECK.due("balance " + (k - 2) + " is seen", seen[k] > 0, true);
        }
        CHECK.due("uneven samples at the rims are seen", rims > 4, true);
    }

    @Says("CLASS 1: with its neighbours a to the left and b to the right,")
    static void offsetsByNeighboursAcross() {
        byNeighbours(1, 1, 0);
    }

    @Says("CLASS 2: a above and b below,")
    static void offsetsByNeighboursDown() {
        byNeighbours(2, 0, 1);
    }

    @Says("if both lie in the picture:")
    static void rimsHaveNoOffsets() {
        for (int offsetClass = 1; offsetClass <= 2; offsetClass++) {
            Subject x = uneven(Bits.head(4, 0, 1, 0, offsetClass).offsets(7, 7, 7, 7));
            int atOtherRims = 0;
            for (int k = 0; k < 16; k++) {
                for (int rim = 0; rim <= 15; rim += 15) {
                    int atX = offsetClass == 1 ? rim : k;
                    int atY = offsetClass == 1 ? k : rim;
                    String call = "CLASS " + offsetClass + ": sample(" + atX + ", " + atY + ")";
                    CHECK.due(call, x.sample(atX, atY), x.plain(atX, atY));
                    atOtherRims += x.sample(atY, atX) != x.plain(atY, atX) ? 1 : 0;
                }
            }
            CHECK.due("CLASS " + offsetClass + ": offsets at the other rims", atOtherRims > 4, true);
        }
    }

    /** All 128 but for two dots, 148 at (5, 1) and 108 at (7, 2). With QP 4 a skipped residual is its level. */
    private static Subject dotted(Bits parameters) {
        PictureWriter picture = new PictureWriter(false, true).block(true);
        picture.leaf(1, true, Pictures.one(4, 0, 0, 10));
        int[][] dots = Pictures.one(4, 1, 1, 20);
        dots[2][3] = -20;
        picture.leaf(5, true, dots).leaf(3, null).leaf(3, null);
        picture.block(false).leaf(5, null).block(false).leaf(3, null).block(false).leaf(2, null);
        Subject x = Pictures.decoded(CHECK, "dotted", parameters, picture, 7);
        CHECK.due("plain(0, 0)", x.plain(0, 0), 138);
        CHECK.due("plain(5, 1)", x.plain(5, 1), 148);
        CHECK.due("plain(7, 2)", x.plain(7, 2), 108);
        return x;
    }

    private static void offsetIs(Subject x, int atX, int atY, int due) {
        CHECK.due("offset at " + atX + ", " + atY, x.sample(atX, atY) - x.plain(atX, atY), due);
    }

    @Says("by how many of a and b are greater than c less how many are less: 2: plus OFFSET 0, 1: plus OFFSET 1, "
        + "-1: plus OFFSET 2, -2: plus OFFSET 3.")
    static void offsetsOfDotsAndOfWhatLiesBesideThem() {
        Subject x = dotted(Bits.head(4, 0, 1, 0, 1).offsets(1, 2, -3, -4));
        int[][] across = {{1, 0, 2}, {4, 1, 2}, {5, 1, -4}, {6, 1, 2}, {5, 0, 0}, {6, 2, -3}, {7, 2, 1}, {8, 2, -3}, {3, 12, 0}};
        for (int[] dot : across) {
            offsetIs(x, dot[0], dot[1], dot[2]);
        }
        x = dotted(Bits.head(4, 0, 1, 0, 2).offsets(1, 2, -3, -4));
        int[][] down = {{0, 1, 2}, {5, 1, -4}, {5, 2, 2}, {4, 1, 0}, {7, 1, -3}, {7, 2, 1}, {7, 3, -3}, {7, 14, 0}};
        for (int[] dot : down) {
            offsetIs(x, dot[0], dot[1], dot[2]);
        }
        // A slope: one neighbour is greater, one is less.
        Subject slope = inARow(Bits.head(4, 0, 1, 0, 1).offsets(7, 7, 7, 7), 128, 127, 129, 131, 133);
        offsetIs(slope, 7, 2, 0);
        offsetIs(slope, 8, 2, 0);
        offsetIs(slope, 6, 2, 7);
    }

    @Says("CLASS 3: if (c >> 5) - POSITION & 7 is below 4, plus the OFFSET of that number.")
    static void offsetsByBand() {
        int[] values = {0, 31, 32, 63, 64, 95, 96, 127, 128, 159, 160, 191, 192, 223, 224, 255};
        int[] offsets = {1, 2, -3, -4, 0, 0, 0, 0};
        int[][] levels = new int[4][4];
        for (int i = 0; i < 16; i++) {
            levels[i / 4][i % 4] = values[i] - 128;
        }
        for (int position = 0; position < 8; position++) {
            PictureWriter picture = new PictureWriter(false, true).block(true).leaf(1, true, levels);
            picture.leaf(1, null).leaf(1, null).leaf(1, null);
            picture.block(false).leaf(1, null).block(false).leaf(1, null).block(false).leaf(1, null);
            Bits parameters = Bits.head(4, 0, 1, 0, 3).offsets(1, 2, -3, -4).number(position, 3);
            Subject x = Pictures.decoded(CHECK, "POSITION " + position, parameters, picture, 7);
            for (int i = 0; i < 16; i++) {
                // POSITION says which band has OFFSET 0; behind band 7 comes band 0.
                int number = (i / 2 - position + 8) % 8;
                int due = Math.max(0, Math.min(255, values[i] + offsets[number]));
                CHECK.due("POSITION " + position + ", " + values[i], x.sample(i % 4, i / 4), due);
                CHECK.due("plain", x.plain(i % 4, i / 4), values[i]);
            }
        }
    }

    @Says("CLASS 3: if (c >> 5) - POSITION & 7 is below 4, plus the OFFSET of that number.")
    static void offsetsByBandReachTheRims() {
        Subject x = upright(Bits.head(22, 0, 0, 0, 3).offsets(3, 3, 3, 3).number(4, 3), 10);
        for (int i = 0; i < 256; i++) {
            offsetIs(x, i % 16, i / 16, 3);
        }
    }

    @Says("Brought to 0 .. 255.")
    static void offsetsStayInTheirRange() {
        for (int level : new int[] {127, 126, 121, 120, 119, -128, -127, -122, -121, -120}) {
            PictureWriter picture = new PictureWriter(false, true).block(true);
            picture.leaf(1, true, Pictures.one(4, 1, 1, level)).leaf(3, null).leaf(3, null).leaf(3, null);
            picture.block(false).leaf(2, null).block(false).leaf(2, null).block(false).leaf(2, null);
            int offset = level > 0 ? 7 : -7;
            int due = Math.max(0, Math.min(255, 128 + level + offset));
            Bits bands = Bits.head(4, 0, 1, 0, 3).offsets(offset, offset, offset, offset).number(level > 0 ? 7 : 0, 3);
            Subject x = Pictures.decoded(CHECK, "range", bands, picture, 7);
            CHECK.due("plain " + level, x.plain(1, 1), 128 + level);
            CHECK.due("CLASS 3: sample " + level, x.sample(1, 1), due);
            for (int offsetClass = 1; offsetClass <= 2; offsetClass++) {
                Bits ends = Bits.head(4, 0, 1, 0, offsetClass).offsets(offset, 0, 0, offset);
                x = Pictures.decoded(CHECK, "range", ends, picture, 7);
                CHECK.due("CLASS " + offsetClass + ": sample " + level, x.sample(1, 1), due);
            }
        }
    }

    @Says("OFFSETS. Then each sample c, all from what they are by then:")
    static void allOffsetsFromWhatWasBefore() {
        // A step of 1 upwards, and offsets that would turn it round if they were added one behind the other.
        Subject x = upright(Bits.head(22, 0, 0, 0, 1).offsets(0, 7, -7, 0), 1);
        columnsAre("a step of 1", x, 1, 135, 122);
        x = lying(Bits.head(22, 0, 0, 0, 2).offsets(0, 7, -7, 0), 1);
        rowsAre("a step of 1", x, 1, 135, 122);
    }

    @Says("OFFSETS. Then each sample c, all from what they are by then:")
    static void offsetsComeBehindEdges() {
        // 128, 131, 145, 148 at x = 6 .. 9: the slope has no offsets but at its ends.
        Subject x = upright(Bits.head(22, 0, 0, 1, 1).offsets(7, 3, -2, -7), 20);
        int[] due = {128, 131, 131, 145, 146, 148};
        for (int i = 0; i < due.length; i++) {
            CHECK.due("sample(" + (5 + i) + ", 3)", x.sample(5 + i, 3), due[i]);
        }
        // 162 lies in band 5, but it was smoothed to 159, which lies in band 4.
        x = upright(Bits.head(22, 0, 0, 1, 3).offsets(5, 0, 0, 0).number(4, 3), 34);
        CHECK.due("plain(8, 3)", x.plain(8, 3), 162);
        CHECK.due("sample(8, 3)", x.sample(8, 3), 164);
        CHECK.due("sample(9, 3)", x.sample(9, 3), 162);
    }

    @Says("`int sample(int x, int y)`: The sample at (x, y) of the picture;")
    static void samplesAreFinished() {
        Subject x = dotted(Bits.head(4, 0, 1, 0, 0));
        for (int i = 0; i < 256; i++) {
            CHECK.due("nothing to finish", x.sample(i % 16, i / 16), x.plain(i % 16, i / 16));
        }
        CHECK.due("sample(5, 1): x to the right, y down", x.sample(5, 1), 148);
        CHECK.due("sample(1, 5)", x.sample(1, 5), 128);
        columnsAre("finished", upright(EDGES_QP_22, 6), 6, 130, 132);
    }
}

/** PREDICTION and promise 10: what is predicted from the samples round a leaf, in each mode. */
public final class PredictionTest {
    private static final Check CHECK = new Check("PredictionTest");
    // With QP 4 and SKIP a residual is its level.
    private static final Bits PARAMETERS = Bits.head(4, 0, 1, 0, 0);

    // Which small leaves have what lies above them to the right, and which what lies to the left below, by rows of leaves.
    private static final String[] ABOVE_RIGHT = {"....", "y.y.", "yyy.", "y.y."};
    private static final String[] LEFT_BELOW = {"..y.", "....", "..y.", "...."};

    public static void main(String[] args) {
        CHECK.runAll(PredictionTest.class);
        CHECK.end();
    }

    private interface Due {
        int at(int x, int y);
    }

    private static void predictedAre(String name, Subject picture, int left, int top, int side, Due due) {
        for (int y = 0; y < side; y++) {
            for (int x = 0; x < side; x++) {
                String call = name + ": predicted(" + (left + x) + ", " + (top + y) + ")";
                CHECK.due(call, picture.predicted(left + x, top + y), due.at(x, y));
            }
        }
    }

    private static int[][] lowestRow(int from, int step) {
        int[][] levels = new int[4][4];
        for (int x = 0; x < 4; x++) {
            levels[3][x] = from + step * x;
        }
        return levels;
    }

    private static int[][] rightColumn(int from, int step) {
        int[][] levels = new int[4][4];
        for (int y = 0; y < 4; y++) {
            levels[y][3] = from + step * y;
        }
        return levels;
    }

    /** Two blocks that are 128, but for row 7, which is 8 * x. */
    private static PictureWriter aboveARisingRow() {
        PictureWriter picture = new PictureWriter(false, true);
        picture.block(true).leaf(1, Pictures.none(4)).leaf(1, null);
        picture.leaf(3, true, lowestRow(-128, 8)).leaf(3, true, lowestRow(-96, 8));
        picture.block(true).leaf(3, null).leaf(3, null);
        return picture.leaf(3, true, lowestRow(-64, 8)).leaf(3, true, lowestRow(-32, 8));
    }

    private static void rowIsRising(Subject x) {
        for (int k = 0; k < 16; k++) {
            CHECK.due("plain(" + k + ", 7)", x.plain(k, 7), 8 * k);
            CHECK.due("plain(" + k + ", 6)", x.plain(k, 6), 128);
        }
    }

    private static void largeBelowARisingRow(int mode) {
        PictureWriter picture = aboveARisingRow().block(false).leaf(mode, null).block(false).leaf(1, null);
        Subject decoded = Pictures.decoded(CHECK, "rising", PARAMETERS, picture, 10);
        rowIsRising(decoded);
        // Nothing is to the left: LEFT and the CORNER are ABOVE(0), which is 0 and becomes 2 where it is smoothed.
        Due[] due = {
            (x, y) -> ((x + 1) * 64 + (7 - y) * (x == 0 ? 2 : 8 * x) + 8) / 16,
            (x, y) -> 14,
            (x, y) -> 0,
            (x, y) -> 8 * x,
            (x, y) -> 8 * (x + (13 * (y + 1) >> 5)) + (8 * (13 * (y + 1) & 31) + 16 >> 5),
            (x, y) -> 8 * (x + y + 1),
            (x, y) -> 0,
            (x, y) -> x <= y ? 0 : x - y == 1 ? 2 : 8 * (x - y - 1)};
        predictedAre("large, mode " + mode, decoded, 0, 8, 8, due[mode]);
    }

    private static void smallBelowARisingRow(int mode) {
        PictureWriter picture = aboveARisingRow().block(true).leaf(mode, null).leaf(1, null).leaf(1, null).leaf(1, null);
        picture.block(false).leaf(1, null);
        Subject decoded = Pictures.decoded(CHECK, "rising", PARAMETERS, picture, 13);
        rowIsRising(decoded);
        Due[] due = {
            (x, y) -> ((x + 1) * 32 + (3 - y) * 8 * x + 4) / 8,
            (x, y) -> 6,
            (x, y) -> 0,
            (x, y) -> 8 * x,
            (x, y) -> 8 * (x + (13 * (y + 1) >> 5)) + (8 * (13 * (y + 1) & 31) + 16 >> 5),
            (x, y) -> 8 * (x + y + 1),
            (x, y) -> 0,
            (x, y) -> x <= y ? 0 : 8 * (x - y - 1)};
        predictedAre("small, mode " + mode, decoded, 0, 8, 4, due[mode]);
    }

    /** A block that is 128, but for column 7, which is 200 - 8 * y. */
    private static PictureWriter leftOfAFallingColumn() {
        PictureWriter picture = new PictureWriter(false, true);
        picture.block(true).leaf(1, Pictures.none(4)).leaf(2, true, rightColumn(72, -8));
        return picture.leaf(1, null).leaf(2, true, rightColumn(40, -8));
    }

    private static void columnIsFalling(Subject x) {
        for (int k = 0; k < 8; k++) {
            CHECK.due("plain(7, " + k + ")", x.plain(7, k), 200 - 8 * k);
            CHECK.due("plain(6, " + k + ")", x.plain(6, k), 128);
        }
    }

    private static int between(int near, int far, int f) {
        return (32 - f) * near + f * far + 16 >> 5;
    }

    private static void largeBesideAFallingColumn(int mode) {
        PictureWriter picture = leftOfAFallingColumn().block(false).leaf(mode, null);
        picture.block(false).leaf(1, null).block(false).leaf(1, null);
        Subject decoded = Pictures.decoded(CHECK, "falling", PARAMETERS, picture, 7);
        columnIsFalling(decoded);
        // Nothing is above: the CORNER and ABOVE are LEFT(0); below 7 all of LEFT is LEFT(7).
        int[] smooth = {198, 192, 184, 176, 168, 160, 152, 146};
        Due[] due = {
            (x, y) -> ((7 - x) * smooth[y] + (x + 1) * 200 + (7 - y) * 200 + (y + 1) * 144 + 8) / 16,
            (x, y) -> 186,
            (x, y) -> 200 - 8 * y,
            (x, y) -> 200,
            (x, y) -> 200,
            (x, y) -> 200,
            (x, y) -> {
                int a = 26 * (x + 1);
                int k = y + a / 32;
                return between(200 - 8 * Math.min(7, k), 200 - 8 * Math.min(7, k + 1), a % 32);
            },
            (x, y) -> x >= y ? 200 : smooth[y - x - 1]};
        predictedAre("large, mode " + mode, decoded, 8, 0, 8, due[mode]);
    }

    private static void smallBesideAFallingColumn(int mode) {
        PictureWriter picture = leftOfAFallingColumn().block(true);
        picture.leaf(mode, null).leaf(1, null).leaf(1, null).leaf(1, null);
        picture.block(false).leaf(1, null).block(false).leaf(1, null);
        Subject decoded = Pictures.decoded(CHECK, "falling", PARAMETERS, picture, 10);
        columnIsFalling(decoded);
        // The leaf to the left that lies lower came before: LEFT goes on to 7.
        Due[] due = {
            (x, y) -> ((3 - x) * (200 - 8 * y) + (x + 1) * 200 + (3 - y) * 200 + (y + 1) * 168 + 4) / 8,
            (x, y) -> 194,
            (x, y) -> 200 - 8 * y,
            (x, y) -> 200,
            (x, y) -> 200,
            (x, y) -> 200,
            (x, y) -> {
                int a = 26 * (x + 1);
                return between(200 - 8 * (y + a / 32), 192 - 8 * (y + a / 32), a % 32);
            },
            (x, y) -> x >= y ? 200 : 200 - 8 * (y - x - 1)};
        predictedAre("small, mode " + mode, decoded, 8, 0, 4, due[mode]);
    }

    private static void inAllPlaces(int mode) {
        largeBelowARisingRow(mode);
        smallBelowARisingRow(mode);
        largeBesideAFallingColumn(mode);
        smallBesideAFallingColumn(mode);
        amongOthers(mode, 8);
        amongOthers(mode, 4);
    }

    /** Levels at three corners of a leaf, so that the samples round the next leaves differ. */
    private static int[][] dots(int side, int number) {
        int[][] levels = Pictures.one(side, side - 1, side - 1, 20 - 3 * number);
        levels[0][side - 1] = 5 * number - 31;
        levels[side - 1][0] = 17 + number;
        return levels;
    }

    /** A picture of small leaves with dots, mode 1 but for one leaf. */
    private static Subject smallDots(int leafX, int leafY, int mode) {
        PictureWriter picture = new PictureWriter(false, true);
        for (int i = 0; i < 16; i++) {
            int x = i / 4 % 2 * 2 + i % 2;
            int y = i / 8 * 2 + i % 4 / 2;
            if (i % 4 == 0) {
                picture.block(true);
            }
            picture.leaf(x == leafX && y == leafY ? mode : 1, true, dots(4, i));
        }
        return Pictures.decoded(CHECK, "small dots", PARAMETERS, picture, 16);
    }

    /** A picture of a split block and three large leaves, all with dots, mode 1 but for one block. */
    private static Subject largeDots(int block, int mode) {
        PictureWriter picture = new PictureWriter(false, true).block(true);
        for (int i = 0; i < 4; i++) {
            picture.leaf(1, true, dots(4, i));
        }
        for (int i = 1; i < 4; i++) {
            picture.block(false).leaf(i == block ? mode : 1, dots(8, i));
        }
        return Pictures.decoded(CHECK, "large dots", Bits.head(16, 0, 1, 0, 0), picture, 7);
    }

    /** The last leaf of the last block, or the last block as one leaf: all that lies round it in the picture is there. */
    private static void amongOthers(int mode, int side) {
        Subject picture = side == 4 ? smallDots(3, 3, mode) : largeDots(3, mode);
        int corner = 16 - side;
        int[] left = new int[2 * side];
        int[] above = new int[2 * side];
        for (int k = 0; k < 2 * side; k++) {
            left[k] = picture.plain(corner - 1, Math.min(15, corner + k));
            above[k] = picture.plain(Math.min(15, corner + k), corner - 1);
        }
        int middle = picture.plain(corner - 1, corner - 1);
        CHECK.due("the corner differs", middle != left[0] && middle != above[0], true);
        boolean smooth = side == 8 && (mode == 0 || mode == 5 || mode == 7);
        int[] smoothLeft = left.clone();
        int[] smoothAbove = above.clone();
        for (int k = 0; k < 2 * side - 1 && smooth; k++) {
            smoothLeft[k] = (k == 0 ? middle : left[k - 1]) + 2 * left[k] + left[k + 1] + 2 >> 2;
            smoothAbove[k] = (k == 0 ? middle : above[k - 1]) + 2 * above[k] + above[k + 1] + 2 >> 2;
        }
        int smoothCorner = smooth ? left[0] + 2 * middle + above[0] + 2 >> 2 : middle;
        predictedAre("among others, mode " + mode, picture, corner, corner, side,
            (x, y) -> inMode(mode, side, smoothLeft, smoothCorner, smoothAbove, x, y));
    }

    private static int inMode(int mode, int n, int[] left, int corner, int[] above, int x, int y) {
        switch (mode) {
            case 0:
                return ((n - 1 - x) * left[y] + (x + 1) * above[n] + (n - 1 - y) * above[x] + (y + 1) * left[n] + n) / (2 * n);
            case 1:
                int sum = n;
                for (int k = 0; k < n; k++) {
                    sum += left[k] + above[k];
                }
                return sum / (2 * n);
            case 2:
                return left[y];
            case 3:
                return above[x];
            case 4:
                int down = 13 * (y + 1);
                return between(above[x + down / 32], above[x + down / 32 + 1], down % 32);
            case 5:
                return above[x + y + 1];
            case 6:
                int across = 26 * (x + 1);
                return between(left[y + across / 32], left[y + across / 32 + 1], across % 32);
            default:
                return x > y ? above[x - y - 1] : x < y ? left[y - x - 1] : corner;
        }
    }

    @Says("mode 0: ((N - 1 - x) * LEFT(y) + (x + 1) * ABOVE(N) + (N - 1 - y) * ABOVE(x) + (y + 1) * LEFT(N) + N) / "
        + "(2N);")
    static void mode0() {
        inAllPlaces(0);
    }

    @Says("1: (the sum of LEFT(0) .. LEFT(N - 1) and ABOVE(0) .. ABOVE(N - 1), + N) / (2N);")
    static void mode1() {
        inAllPlaces(1);
        // 7 + 8 is less than 16, 8 + 8 is not; 3 + 4 is less than 8, 4 + 4 is not.
        predictedAre("a spike of 7", belowASpike(2, 7, 1), 0, 8, 8, (x, y) -> 128);
        predictedAre("a spike of 8", belowASpike(2, 8, 1), 0, 8, 8, (x, y) -> 129);
        predictedAre("a spike of -8", belowASpike(2, -8, 1), 0, 8, 8, (x, y) -> 128);
        predictedAre("a spike of -9", belowASpike(2, -9, 1), 0, 8, 8, (x, y) -> 127);
        for (int spike = 3; spike <= 4; spike++) {
            int due = spike == 3 ? 128 : 129;
            predictedAre("a spike of " + spike, besideASpike(spike, 1), 4, 0, 4, (x, y) -> due);
        }
    }

    /** A leaf of 128 but for one sample, at (3, 1), and another leaf to the right of it. */
    private static Subject besideASpike(int spike, int mode) {
        PictureWriter picture = new PictureWriter(false, true).block(true).leaf(1, true, Pictures.one(4, 3, 1, spike));
        picture.leaf(mode, null).leaf(1, null).leaf(1, null);
        picture.block(false).leaf(1, null).block(false).leaf(1, null).block(false).leaf(1, null);
        return Pictures.decoded(CHECK, "beside a spike", PARAMETERS, picture, 7);
    }

    @Says("2: LEFT(y);")
    static void mode2() {
        inAllPlaces(2);
    }

    @Says("3: ABOVE(x);")
    static void mode3() {
        inAllPlaces(3);
    }

    @Says("4: with a = 13 * (y + 1), i = a >> 5, f = a & 31: ((32 - f) * ABOVE(x + i) + f * ABOVE(x + i + 1) + 16) "
        + ">> 5;")
    static void mode4() {
        inAllPlaces(4);
        // In row 0 f is 13: 13 * 11 is 143, and 143 + 16 >> 5 is 4; 19 * 11 is 209, and 209 + 16 >> 5 is 7.
        Subject x = belowASpike(2, 11, 4);
        CHECK.due("a spike of 11, before it", x.predicted(1, 8), 132);
        CHECK.due("a spike of 11, below it", x.predicted(2, 8), 135);
        x = belowASpike(2, -5, 4);
        // 13 * -5 is -65, and -65 + 16 >> 5 is -2; 19 * -5 is -95, and -95 + 16 >> 5 is -3.
        CHECK.due("a spike of -5, before it", x.predicted(1, 8), 126);
        CHECK.due("a spike of -5, below it", x.predicted(2, 8), 125);
    }

    @Says("5: ABOVE(x + y + 1);")
    static void mode5() {
        inAllPlaces(5);
    }

    @Says("6: with a = 26 * (x + 1), i = a >> 5, f = a & 31: ((32 - f) * LEFT(y + i) + f * LEFT(y + i + 1) + 16) >> 5;")
    static void mode6() {
        inAllPlaces(6);
        // In column 0 f is 26: 26 * 3 is 78, and 78 + 16 >> 5 is 2; 6 * 3 is 18, and 18 + 16 >> 5 is 1.
        Subject x = besideASpike(3, 6);
        CHECK.due("a spike of 3, before it", x.predicted(4, 0), 130);
        CHECK.due("a spike of 3, beside it", x.predicted(4, 1), 129);
        // 26 * -5 is -130, and -130 + 16 >> 5 is -4; 6 * -5 is -30, and -30 + 16 >> 5 is -1.
        x = besideASpike(-5, 6);
        CHECK.due("a spike of -5, before it", x.predicted(4, 0), 124);
        CHECK.due("a spike of -5, beside it", x.predicted(4, 1), 127);
    }

    @Says("7: ABOVE(x - y - 1) if x > y, LEFT(y - x - 1) if x < y, the CORNER if they are equal.")
    static void mode7() {
        inAllPlaces(7);
    }

    @Says({"PREDICTION. The REFERENCES of a leaf are LEFT(k), the sample at (X - 1, Y + k), and ABOVE(k), the "
        + "sample at (X + k, Y - 1), k from 0 to 2N - 1, and the CORNER, the sample at (X - 1, Y - 1).",
        "Then at (x, y) of the leaf, x and y from 0 to N - 1:"})
    static void theFirstAndTheLastReferences() {
        // ABOVE(2N - 1) is the last sample that mode 5 takes, LEFT(2N - 1) the last that mode 6 takes in a small leaf.
        Subject x = smallDots(1, 2, 5);
        CHECK.due("ABOVE(7)", x.predicted(7, 11), x.plain(11, 7));
        CHECK.due("ABOVE(1)", x.predicted(4, 8), x.plain(5, 7));
        x = smallDots(2, 2, 6);
        CHECK.due("LEFT(6) and LEFT(7)", x.predicted(11, 11), between(x.plain(7, 14), x.plain(7, 15), 8));
        CHECK.due("LEFT(7) differs", x.plain(7, 14) != x.plain(7, 15), true);
        x = smallDots(2, 2, 7);
        CHECK.due("CORNER", x.predicted(8, 8), x.plain(7, 7));
        CHECK.due("ABOVE(0)", x.predicted(9, 8), x.plain(8, 7));
        CHECK.due("LEFT(0)", x.predicted(8, 9), x.plain(7, 8));
        x = largeDots(2, 5);
        CHECK.due("ABOVE(15)", x.predicted(7, 15), x.plain(15, 7));
    }

    @Says("One is there if it lies in the picture and its leaf came before.")
    static void whatLiesAboveToTheRight() {
        for (int i = 1; i < 16; i++) {
            int leafX = i % 4;
            int leafY = i / 4;
            int left = 4 * leafX;
            int top = 4 * leafY;
            Subject x = smallDots(leafX, leafY, 5);
            // Mode 5 takes ABOVE(7) at (3, 3); if it is not there, it is the one before it.
            int due = leafY == 0 ? x.plain(left - 1, 0)
                : ABOVE_RIGHT[leafY].charAt(leafX) == 'y' ? x.plain(left + 7, top - 1) : x.plain(left + 3, top - 1);
            CHECK.due("ABOVE(7) of leaf " + leafX + ", " + leafY, x.predicted(left + 3, top + 3), due);
        }
        Subject x = largeDots(1, 5);
        CHECK.due("nothing above block 1", x.predicted(15, 7), x.plain(7, 0));
        x = largeDots(2, 5);
        CHECK.due("above block 2", x.predicted(7, 15), x.plain(15, 7));
        x = largeDots(3, 5);
        CHECK.due("above block 3", x.predicted(15, 15), x.plain(15, 7));
    }

    @Says("One is there if it lies in the picture and its leaf came before.")
    static void whatLiesToTheLeftBelow() {
        for (int i = 1; i < 16; i++) {
            int leafX = i % 4;
            int leafY = i / 4;
            int left = 4 * leafX;
            int top = 4 * leafY;
            Subject x = smallDots(leafX, leafY, 6);
            // Mode 6 takes LEFT(6) and LEFT(7) at (3, 3); if they are not there, they are what LEFT(3) is.
            int due = leafX == 0 ? x.plain(0, top - 1) : LEFT_BELOW[leafY].charAt(leafX) == 'y'
                ? between(x.plain(left - 1, top + 6), x.plain(left - 1, top + 7), 8) : x.plain(left - 1, top + 3);
            CHECK.due("LEFT(7) of leaf " + leafX + ", " + leafY, x.predicted(left + 3, top + 3), due);
        }
        Subject x = largeDots(1, 6);
        CHECK.due("left of block 1", x.predicted(15, 7), x.plain(7, 7));
        x = largeDots(2, 6);
        CHECK.due("nothing left of block 2", x.predicted(7, 15), x.plain(0, 7));
        x = largeDots(3, 6);
        CHECK.due("left of block 3", x.predicted(15, 15), x.plain(7, 15));
    }

    @Says("if none is there, all are 128;")
    static void theFirstLeafIsPredicted128() {
        predictedAre("first leaf", smallDots(1, 0, 1), 0, 0, 4, (x, y) -> 128);
        Subject x = new Bytes().unit(1, 0x80).unit(2, 0x12, 0x34).unit(2, 0x56, 0x78).fed();
        CHECK.due("decode()", x.decode() > 0, true);
        predictedAre("first leaf of the second picture", x, 0, 0, 4, (a, b) -> 128);
    }

    @Says("One is there if it lies in the picture and its leaf came before.")
    static void leavesOfThePictureBeforeAreNotThere() {
        // Its samples are not 128; all of the next one's are, though it looks far to the left below and above to the right.
        PictureWriter before = new PictureWriter(false, true).block(true).leaf(1, true, Pictures.all(4, 40)).leaf(2, null);
        before.leaf(3, null).leaf(2, null).block(false).leaf(2, null).block(false).leaf(3, null).block(false).leaf(2, null);
        PictureWriter picture = new PictureWriter(false, true).block(true).leaf(1, Pictures.none(4)).leaf(6, null);
        picture.leaf(5, null).leaf(5, null).block(true).leaf(6, null).leaf(6, null).leaf(6, null).leaf(5, null);
        picture.block(true).leaf(5, null).leaf(6, null).leaf(5, null).leaf(5, null).block(false).leaf(6, null);
        Subject x = Pictures.bytes(PARAMETERS, before).unit(2, picture.toBytes()).fed();
        CHECK.due("decode()", x.decode(), 13);
        for (int i = 0; i < 256; i++) {
            CHECK.due("predicted(" + i % 16 + ", " + i / 16 + ")", x.predicted(i % 16, i / 16), 128);
        }
        Subject alone = Pictures.decoded(CHECK, "the picture before", PARAMETERS, before, 7);
        for (int i = 0; i < 256; i++) {
            CHECK.due("plain(" + i % 16 + ", " + i / 16 + ") of the picture before", alone.plain(i % 16, i / 16), 168);
        }
    }

    @Says({"They are gone through from LEFT(2N - 1) to LEFT(0), the CORNER, ABOVE(0) to ABOVE(2N - 1):",
        "otherwise the first one, if it is not there, becomes what the first one is that is there, and then each "
        + "that is not there what the one before it is."})
    static void gapsAreFilledFromTheOneBefore() {
        // At the upper rim the CORNER and ABOVE are LEFT(0); at the left rim LEFT and the CORNER are ABOVE(0).
        for (int leaf = 1; leaf < 4; leaf++) {
            Subject upper = smallDots(leaf, 0, 7);
            Subject rim = smallDots(0, leaf, 7);
            int at = 4 * leaf;
            for (int k = 0; k < 4; k++) {
                CHECK.due("CORNER at the upper rim", upper.predicted(at + k, k), upper.plain(at - 1, 0));
                CHECK.due("CORNER at the left rim", rim.predicted(k, at + k), rim.plain(0, at - 1));
            }
            CHECK.due("ABOVE(2) at the upper rim", upper.predicted(at + 3, 0), upper.plain(at - 1, 0));
            CHECK.due("LEFT(2) at the left rim", rim.predicted(0, at + 3), rim.plain(0, at - 1));
            CHECK.due("LEFT(2) at the upper rim", upper.predicted(at, 3), upper.plain(at - 1, 2));
            CHECK.due("ABOVE(2) at the left rim", rim.predicted(3, at), rim.plain(2, at - 1));
        }
        // The last leaf of the first block: neither what lies above it to the right is there nor what lies to the left below.
        PictureWriter picture = new PictureWriter(false, true).block(true).leaf(1, Pictures.none(4));
        picture.leaf(3, true, lowestRow(10, 1)).leaf(1, true, rightColumn(-5, -1)).leaf(5, null);
        picture.block(false).leaf(1, null).block(false).leaf(1, null).block(false).leaf(1, null);
        Subject decoded = Pictures.decoded(CHECK, "not there", PARAMETERS, picture, 7);
        predictedAre("above to the right", decoded, 4, 4, 4, (x, y) -> 138 + Math.min(3, x + y + 1));
        // The second leaf of a block: what lies to the left below is not there yet.
        picture = new PictureWriter(false, true).block(true).leaf(1, true, rightColumn(-5, -1)).leaf(6, null);
        picture.leaf(1, null).leaf(1, null).block(false).leaf(1, null).block(false).leaf(1, null).block(false).leaf(1, null);
        decoded = Pictures.decoded(CHECK, "not there", PARAMETERS, picture, 7);
        predictedAre("to the left below", decoded, 4, 0, 4, (x, y) -> {
            int a = 26 * (x + 1);
            int k = y + a / 32;
            return between(123 - Math.min(3, k), 123 - Math.min(3, k + 1), a % 32);
        });
    }

    /** Two blocks of 128 but for one sample of row 7; then a large leaf below them. */
    private static Subject belowASpike(int spikeX, int spike, int mode) {
        PictureWriter picture = new PictureWriter(false, true);
        picture.block(true).leaf(1, Pictures.none(4)).leaf(1, null);
        picture.leaf(1, true, spikeIn(0, spikeX, spike)).leaf(3, true, spikeIn(4, spikeX, spike));
        picture.block(true).leaf(3, null).leaf(3, null);
        picture.leaf(3, true, spikeIn(8, spikeX, spike)).leaf(3, true, spikeIn(12, spikeX, spike));
        picture.block(false).leaf(mode, null).block(false).leaf(1, null);
        Subject x = Pictures.decoded(CHECK, "spike", PARAMETERS, picture, 10);
        for (int k = 0; k < 16; k++) {
            CHECK.due("plain(" + k + ", 7)", x.plain(k, 7), 128 + (k == spikeX ? spike : 0));
        }
        return x;
    }

    private static int[][] spikeIn(int left, int spikeX, int spike) {
        boolean here = spikeX >= left && spikeX < left + 4;
        return here ? Pictures.one(4, spikeX - left, 3, spike) : Pictures.none(4);
    }

    @Says("each of them but the first and the last then becomes (the one before + 2 * itself + the one behind + 2) "
        + ">> 2, all from what they were.")
    static void referencesAreSmoothed() {
        for (int spike : new int[] {-4, -3, -2, -1, 1, 2, 3, 4, 100}) {
            // Mode 5 takes ABOVE(1) to ABOVE(15): the spike at 9, half of it there and a quarter beside it.
            Subject x = belowASpike(9, spike, 5);
            int half = 128 + (2 * spike + 2 >> 2);
            int quarter = 128 + (spike + 2 >> 2);
            predictedAre("spike " + spike, x, 0, 8, 8, (a, b) -> {
                int k = a + b + 1;
                return k == 9 ? half : k == 8 || k == 10 ? quarter : 128;
            });
            // The last one stays as it is; the one before it does not.
            x = belowASpike(15, spike, 5);
            predictedAre("spike at the end, " + spike, x, 0, 8, 8, (a, b) -> {
                int k = a + b + 1;
                return k == 15 ? 128 + spike : k == 14 ? quarter : 128;
            });
        }
    }

    @Says("For N = 8 and the modes 0, 5 and 7")
    static void onlySomeModesAreSmoothed() {
        // A spike of 64 at ABOVE(2): what comes of it below, in the modes that take it as it is and in those that do not.
        predictedAre("mode 3", belowASpike(2, 64, 3), 0, 8, 8, (x, y) -> x == 2 ? 192 : 128);
        predictedAre("mode 1", belowASpike(7, 64, 1), 0, 8, 8, (x, y) -> 132);
        predictedAre("mode 5", belowASpike(2, 64, 5), 0, 8, 8,
            (x, y) -> x + y == 1 ? 160 : x + y == 0 || x + y == 2 ? 144 : 128);
        predictedAre("mode 7", belowASpike(2, 64, 7), 0, 8, 8,
            (x, y) -> x - y == 3 ? 160 : x - y == 2 || x - y == 4 ? 144 : 128);
        predictedAre("mode 0", belowASpike(2, 64, 0), 0, 8, 8,
            (x, y) -> 128 + ((7 - y) * (x == 2 ? 32 : x == 1 || x == 3 ? 16 : 0) + 8) / 16);
        predictedAre("mode 4", belowASpike(2, 64, 4), 0, 8, 8, (x, y) -> {
            int a = 13 * (y + 1);
            int k = x + a / 32;
            return between(k == 2 ? 192 : 128, k == 1 ? 192 : 128, a % 32);
        });
        // A small leaf takes them as they are in each mode.
        PictureWriter picture = new PictureWriter(false, true).block(true);
        picture.leaf(1, true, Pictures.one(4, 2, 3, 64)).leaf(1, null).leaf(5, null).leaf(1, null);
        picture.block(false).leaf(1, null).block(false).leaf(1, null).block(false).leaf(1, null);
        Subject small = Pictures.decoded(CHECK, "small", PARAMETERS, picture, 7);
        predictedAre("small, mode 5", small, 0, 4, 4, (x, y) -> x + y == 1 ? 192 : small.plain(x + y + 1, 3));
        CHECK.due("the spike", small.plain(2, 3), 192);
        CHECK.due("beside it", small.plain(1, 3), 128);
    }

    @Says("(A leaf's samples come before the next leaf.)")
    static void aLeafIsPredictedFromTheSamplesOfTheOneBefore() {
        PictureWriter picture = new PictureWriter(false, true).block(true);
        picture.leaf(1, true, rightColumn(30, 5)).leaf(2, true, rightColumn(-50, 1)).leaf(1, null).leaf(1, null);
        picture.block(false).leaf(2, null).block(false).leaf(1, null).block(false).leaf(1, null);
        Subject decoded = Pictures.decoded(CHECK, "one behind the other", PARAMETERS, picture, 7);
        predictedAre("second leaf", decoded, 4, 0, 4, (x, y) -> 158 + 5 * y);
        predictedAre("third leaf", decoded, 8, 0, 4, (x, y) -> 108 + 6 * y);
    }

    @Says("`int predicted(int x, int y)`: What was predicted at (x, y); -1 likewise.")
    static void referencesAreTakenBeforeEdgesAndOffsets() {
        PictureWriter picture = leftOfAFallingColumn().block(false).leaf(2, null);
        picture.block(false).leaf(1, null).block(false).leaf(1, null);
        Bits parameters = Bits.head(4, 0, 1, 1, 3).offsets(7, 7, 7, 7).number(4, 3);
        Subject decoded = Pictures.decoded(CHECK, "finished", parameters, picture, 7);
        columnIsFalling(decoded);
        predictedAre("finished", decoded, 8, 0, 8, (x, y) -> 200 - 8 * y);
        CHECK.due("sample(7, 0)", decoded.sample(7, 0) != 200, true);
    }
}

/** Promise 10: what is predicted from the samples round a leaf, in each mode. */
public final class PredictionTest {
    private static final Check CHECK = new Check("PredictionTest");
    // With QP 4 and SKIP a residual is its level.
    private static final Bits PARAMETERS = Bits.head(4, 0, 1, 0, 0);

    public static void main(String[] args) {
        for (int mode = 0; mode < 8; mode++) {
            largeBelowARisingRow(mode);
            smallBelowARisingRow(mode);
            largeBesideAFallingColumn(mode);
            smallBesideAFallingColumn(mode);
        }
        referencesThatAreNotThere();
        referencesAreTakenBeforeEdgesAndOffsets();
        CHECK.end();
    }

    private interface Due {
        int at(int x, int y);
    }

    private static void predictedAre(String name, IntraPicture picture, int left, int top, int side, Due due) {
        for (int y = 0; y < side; y++) {
            for (int x = 0; x < side; x++) {
                String call = name + ": predicted(" + (left + x) + ", " + (top + y) + ")";
                CHECK.due(call, picture.predicted(left + x, top + y), due.at(x, y));
            }
        }
    }

    private static int[][] lowestRow(int from, int step) {
        int[][] levels = new int[4][4];
        for (int x = 0; x < 4; x++) {
            levels[3][x] = from + step * x;
        }
        return levels;
    }

    private static int[][] rightColumn(int from, int step) {
        int[][] levels = new int[4][4];
        for (int y = 0; y < 4; y++) {
            levels[y][3] = from + step * y;
        }
        return levels;
    }

    /** Two blocks that are 128, but for row 7, which is 8 * x. */
    private static PictureWriter aboveARisingRow() {
        PictureWriter picture = new PictureWriter(false, true);
        picture.block(true).leaf(1, Pictures.none(4)).leaf(1, null);
        picture.leaf(3, true, lowestRow(-128, 8)).leaf(3, true, lowestRow(-96, 8));
        picture.block(true).leaf(3, null).leaf(3, null);
        return picture.leaf(3, true, lowestRow(-64, 8)).leaf(3, true, lowestRow(-32, 8));
    }

    private static void rowIsRising(IntraPicture x) {
        for (int k = 0; k < 16; k++) {
            CHECK.due("plain(" + k + ", 7)", x.plain(k, 7), 8 * k);
            CHECK.due("plain(" + k + ", 6)", x.plain(k, 6), 128);
        }
    }

    private static void largeBelowARisingRow(int mode) {
        PictureWriter picture = aboveARisingRow().block(false).leaf(mode, null).block(false).leaf(1, null);
        IntraPicture decoded = Pictures.decoded(CHECK, "rising", PARAMETERS, picture, 10);
        rowIsRising(decoded);
        // Nothing is to the left: LEFT and the CORNER are ABOVE(0), which is 0 and becomes 2 where it is smoothed.
        Due[] due = {
            (x, y) -> ((x + 1) * 64 + (7 - y) * (x == 0 ? 2 : 8 * x) + 8) / 16,
            (x, y) -> 14,
            (x, y) -> 0,
            (x, y) -> 8 * x,
            (x, y) -> 8 * (x + (13 * (y + 1) >> 5)) + (8 * (13 * (y + 1) & 31) + 16 >> 5),
            (x, y) -> 8 * (x + y + 1),
            (x, y) -> 0,
            (x, y) -> x <= y ? 0 : x - y == 1 ? 2 : 8 * (x - y - 1)};
        predictedAre("large, mode " + mode, decoded, 0, 8, 8, due[mode]);
    }

    private static void smallBelowARisingRow(int mode) {
        PictureWriter picture = aboveARisingRow().block(true).leaf(mode, null).leaf(1, null).leaf(1, null).leaf(1, null);
        picture.block(false).leaf(1, null);
        IntraPicture decoded = Pictures.decoded(CHECK, "rising", PARAMETERS, picture, 13);
        rowIsRising(decoded);
        Due[] due = {
            (x, y) -> ((x + 1) * 32 + (3 - y) * 8 * x + 4) / 8,
            (x, y) -> 6,
            (x, y) -> 0,
            (x, y) -> 8 * x,
            (x, y) -> 8 * (x + (13 * (y + 1) >> 5)) + (8 * (13 * (y + 1) & 31) + 16 >> 5),
            (x, y) -> 8 * (x + y + 1),
            (x, y) -> 0,
            (x, y) -> x <= y ? 0 : 8 * (x - y - 1)};
        predictedAre("small, mode " + mode, decoded, 0, 8, 4, due[mode]);
    }

    /** A block that is 128, but for column 7, which is 200 - 8 * y. */
    private static PictureWriter leftOfAFallingColumn() {
        PictureWriter picture = new PictureWriter(false, true);
        picture.block(true).leaf(1, Pictures.none(4)).leaf(2, true, rightColumn(72, -8));
        return picture.leaf(1, null).leaf(2, true, rightColumn(40, -8));
    }

    private static void columnIsFalling(IntraPicture x) {
        for (int k = 0; k < 8; k++) {
            CHECK.due("plain(7, " + k + ")", x.plain(7, k), 200 - 8 * k);
            CHECK.due("plain(6, " + k + ")", x.plain(6, k), 128);
        }
    }

    private static int between(int near, int far, int f) {
        return (32 - f) * near + f * far + 16 >> 5;
    }

    private static void largeBesideAFallingColumn(int mode) {
        PictureWriter picture = leftOfAFallingColumn().block(false).leaf(mode, null);
        picture.block(false).leaf(1, null).block(false).leaf(1, null);
        IntraPicture decoded = Pictures.decoded(CHECK, "falling", PARAMETERS, picture, 7);
        columnIsFalling(decoded);
        // Nothing is above: the CORNER and ABOVE are LEFT(0); below 7 all of LEFT is LEFT(7).
        int[] smooth = {198, 192, 184, 176, 168, 160, 152, 146};
        Due[] due = {
            (x, y) -> ((7 - x) * smooth[y] + (x + 1) * 200 + (7 - y) * 200 + (y + 1) * 144 + 8) / 16,
            (x, y) -> 186,
            (x, y) -> 200 - 8 * y,
            (x, y) -> 200,
            (x, y) -> 200,
            (x, y) -> 200,
            (x, y) -> {
                int a = 26 * (x + 1);
                int k = y + a / 32;
                return between(200 - 8 * Math.min(7, k), 200 - 8 * Math.min(7, k + 1), a % 32);
            },
            (x, y) -> x >= y ? 200 : smooth[y - x - 1]};
        predictedAre("large, mode " + mode, decoded, 8, 0, 8, due[mode]);
    }

    private static void smallBesideAFallingColumn(int mode) {
        PictureWriter picture = leftOfAFallingColumn().block(true);
        picture.leaf(mode, null).leaf(1, null).leaf(1, null).leaf(1, null);
        picture.block(false).leaf(1, null).block(false).leaf(1, null);
        IntraPicture decoded = Pictures.decoded(CHECK, "falling", PARAMETERS, picture, 10);
        columnIsFalling(decoded);
        // The leaf to the left that lies lower came before: LEFT goes on to 7.
        Due[] due = {
            (x, y) -> ((3 - x) * (200 - 8 * y) + (x + 1) * 200 + (3 - y) * 200 + (y + 1) * 168 + 4) / 8,
            (x, y) -> 194,
            (x, y) -> 200 - 8 * y,
            (x, y) -> 200,
            (x, y) -> 200,
            (x, y) -> 200,
            (x, y) -> {
                int a = 26 * (x + 1);
                return between(200 - 8 * (y + a / 32), 192 - 8 * (y + a / 32), a % 32);
            },
            (x, y) -> x >= y ? 200 : 200 - 8 * (y - x - 1)};
        predictedAre("small, mode " + mode, decoded, 8, 0, 4, due[mode]);
    }

    private static void referencesThatAreNotThere() {
        // The last leaf of the first block: what lies above it to the right is not there yet.
        PictureWriter picture = new PictureWriter(false, true).block(true).leaf(1, Pictures.none(4));
        picture.leaf(3, true, lowestRow(10, 1)).leaf(1, null).leaf(5, null);
        picture.block(false).leaf(1, true, null).block(false).leaf(1, null).block(false).leaf(1, null);
        IntraPicture decoded = Pictures.decoded(CHECK, "not there", PARAMETERS, picture, 7);
        predictedAre("first leaf", decoded, 0, 0, 4, (x, y) -> 128);
        predictedAre("above to the right", decoded, 4, 4, 4, (x, y) -> 138 + Math.min(3, x + y + 1));
        // The second leaf of a block: what lies to the left below is not there yet.
        picture = new PictureWriter(false, true).block(true).leaf(1, true, rightColumn(-5, -1)).leaf(6, null);
        picture.leaf(1, null).leaf(1, null).block(false).leaf(1, null).block(false).leaf(1, null).block(false).leaf(1, null);
        decoded = Pictures.decoded(CHECK, "not there", PARAMETERS, picture, 7);
        predictedAre("to the left below", decoded, 4, 0, 4, (x, y) -> {
            int a = 26 * (x + 1);
            int k = y + a / 32;
            return between(123 - Math.min(3, k), 123 - Math.min(3, k + 1), a % 32);
        });
    }

    private static void referencesAreTakenBeforeEdgesAndOffsets() {
        PictureWriter picture = leftOfAFallingColumn().block(false).leaf(2, null);
        picture.block(false).leaf(1, null).block(false).leaf(1, null);
        Bits parameters = Bits.head(4, 0, 1, 1, 3).offsets(7, 7, 7, 7).number(4, 3);
        IntraPicture decoded = Pictures.decoded(CHECK, "finished", parameters, picture, 7);
        columnIsFalling(decoded);
        predictedAre("finished", decoded, 8, 0, 8, (x, y) -> 200 - 8 * y);
        CHECK.due("sample(7, 0)", decoded.sample(7, 0) != 200, true);
    }
}

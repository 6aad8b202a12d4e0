/** Promise 9: the residuals that come out of the levels, and the samples before edges and offsets. */
public final class ResidualsTest {
    private static final Check CHECK = new Check("ResidualsTest");
    private static final int[][] FOUR = {{29, 55, 74, 84}, {74, 74, 0, -74}, {84, -29, -74, 55}, {55, -84, 74, -29}};
    private static final int[][] EIGHT = {
        {64, 64, 64, 64, 64, 64, 64, 64},
        {89, 75, 50, 18, -18, -50, -75, -89},
        {83, 36, -36, -83, -83, -36, 36, 83},
        {75, -18, -89, -50, 50, 89, 18, -75},
        {64, -64, -64, 64, 64, -64, -64, 64},
        {50, -89, 18, 75, -75, -18, 89, -50},
        {36, -83, 83, -36, -36, 83, -83, 36},
        {18, -50, 75, -89, 89, -75, 50, -18}};

    public static void main(String[] args) {
        eachWaveOfASmallLeaf();
        eachWaveOfALargeLeaf();
        eachScale();
        skippedResiduals();
        skipNeedsItsParameter();
        coefficientsAreBroughtIntoTheirRange();
        sumsAreBroughtIntoTheirRange();
        samplesAreBroughtIntoTheirRange();
        CHECK.end();
    }

    private static int brought(long number) {
        return (int) Math.max(0, Math.min(255, number));
    }

    /** A grey picture whose second leaf, at (4, 0), has these levels. */
    private static IntraPicture small(int qp, int skips, boolean skip, int[][] levels) {
        PictureWriter picture = new PictureWriter(false, skips == 1).block(true).leaf(1, Pictures.none(4));
        picture.leaf(1, skip, levels).leaf(1, null).leaf(1, null);
        picture.block(false).leaf(1, null).block(false).leaf(1, null).block(false).leaf(1, null);
        return Pictures.decoded(CHECK, "small", Bits.head(qp, 0, skips, 0, 0), picture, 7);
    }

    /** A grey picture whose second block, at (8, 0), is one leaf with these levels. */
    private static IntraPicture large(int qp, int[][] levels) {
        PictureWriter picture = Pictures.greyBlock(new PictureWriter(false, false));
        picture.block(false).leaf(1, levels).block(false).leaf(1, null).block(false).leaf(1, null);
        return Pictures.decoded(CHECK, "large", Bits.head(qp, 0, 0, 0, 0), picture, 7);
    }

    private static void eachWaveOfASmallLeaf() {
        for (int i = 0; i < 32; i++) {
            int kx = i % 4;
            int ky = i / 4 % 4;
            int level = i < 16 ? 1 : -1;
            // The coefficient is 2048, so that g is 16 times the matrix.
            IntraPicture x = small(40, 0, false, Pictures.one(4, kx, ky, level));
            for (int p = 0; p < 16; p++) {
                int due = 128 + (level * 16 * FOUR[ky][p / 4] * FOUR[kx][p % 4] + 2048 >> 12);
                CHECK.due("small wave " + i + " at " + p, x.plain(4 + p % 4, p / 4), due);
                CHECK.due("predicted", x.predicted(4 + p % 4, p / 4), 128);
            }
        }
    }

    private static void eachWaveOfALargeLeaf() {
        for (int i = 0; i < 128; i++) {
            int kx = i % 8;
            int ky = i / 8 % 8;
            int level = i < 64 ? 1 : -1;
            IntraPicture x = large(46, Pictures.one(8, kx, ky, level));
            for (int p = 0; p < 64; p++) {
                int due = 128 + (level * 16 * EIGHT[ky][p / 8] * EIGHT[kx][p % 8] + 2048 >> 12);
                CHECK.due("large wave " + i + " at " + p, x.plain(8 + p % 8, p / 8), due);
                CHECK.due("predicted", x.predicted(8 + p % 8, p / 8), 128);
            }
        }
    }

    private static void eachScale() {
        int[] scales = {40, 45, 51, 57, 64, 72};
        for (int qp = 0; qp <= 51; qp++) {
            for (int level : new int[] {1, -1, 5, -37, 129}) {
                long scaled = (long) level * scales[qp % 6] << qp / 6;
                long four = Math.max(-32768, Math.min(32767, scaled + 1 >> 1));
                long eight = Math.max(-32768, Math.min(32767, scaled + 2 >> 2));
                IntraPicture x = small(qp, 0, false, Pictures.one(4, 1, 0, level));
                for (int p = 0; p < 16; p++) {
                    int due = brought(128 + (FOUR[1][p % 4] * (FOUR[0][p / 4] * four + 64 >> 7) + 2048 >> 12));
                    CHECK.due("QP " + qp + ", small, level " + level, x.plain(4 + p % 4, p / 4), due);
                }
                x = large(qp, Pictures.one(8, 0, 0, level));
                int due = brought(128 + (64 * (64 * eight + 64 >> 7) + 2048 >> 12));
                for (int p = 0; p < 64; p++) {
                    CHECK.due("QP " + qp + ", large, level " + level, x.plain(8 + p % 8, p / 8), due);
                }
                x = small(qp, 1, true, Pictures.one(4, 2, 3, level));
                CHECK.due("QP " + qp + ", skipped, level " + level, x.plain(6, 3), brought(128 + (four * 128 + 2048 >> 12)));
            }
        }
    }

    private static void skippedResiduals() {
        int[][] levels = new int[4][4];
        for (int i = 0; i < 16; i++) {
            levels[i / 4][i % 4] = i % 5 == 0 ? 0 : 4 * i - 30;
        }
        IntraPicture x = small(4, 1, true, levels);
        for (int i = 0; i < 16; i++) {
            CHECK.due("QP 4 at " + i, x.plain(4 + i % 4, i / 4), 128 + levels[i / 4][i % 4]);
        }
        // 40 levels are a coefficient of 20 each: 20 * 128 / 4096 is 0.625.
        x = small(0, 1, true, levels);
        for (int i = 0; i < 16; i++) {
            CHECK.due("QP 0 at " + i, x.plain(4 + i % 4, i / 4), 128 + (levels[i / 4][i % 4] * 2560 + 2048 >> 12));
        }
    }

    private static void skipNeedsItsParameter() {
        IntraPicture with = small(40, 1, false, Pictures.one(4, 0, 0, 1));
        IntraPicture without = small(40, 0, false, Pictures.one(4, 0, 0, 1));
        IntraPicture skipped = small(40, 1, true, Pictures.one(4, 0, 0, 1));
        for (int i = 0; i < 16; i++) {
            CHECK.due("SKIP 0 at " + i, with.plain(4 + i % 4, i / 4), without.plain(4 + i % 4, i / 4));
            CHECK.due("SKIP 1 at " + i, skipped.plain(4 + i % 4, i / 4), i == 0 ? 192 : 128);
        }
        CHECK.due("a bin more", with.took(0), without.took(0) + 2);
    }

    private static void coefficientsAreBroughtIntoTheirRange() {
        // At QP 51 a level is a coefficient of 7296: 5 of them are beyond the range.
        for (int size : new int[] {4, 5, 129}) {
            int[][] levels = new int[4][4];
            levels[0][0] = size;
            levels[0][2] = -5;
            IntraPicture x = small(51, 0, false, levels);
            long high = Math.min(32767, size * 57L * 256 + 1 >> 1);
            for (int p = 0; p < 16; p++) {
                long sum = FOUR[0][p % 4] * (FOUR[0][p / 4] * high + 64 >> 7)
                    + FOUR[2][p % 4] * (FOUR[0][p / 4] * -32768L + 64 >> 7);
                CHECK.due("size " + size + " at " + p, x.plain(4 + p % 4, p / 4), brought(128 + (sum + 2048 >> 12)));
            }
        }
    }

    private static void sumsAreBroughtIntoTheirRange() {
        // Two full coefficients in each of two columns, of other signs: at some places the sums are beyond the range.
        int[][] levels = new int[4][4];
        levels[0][0] = 100;
        levels[1][0] = 100;
        levels[0][3] = 100;
        levels[1][3] = 60;
        IntraPicture x = small(48, 0, false, levels);
        for (int p = 0; p < 16; p++) {
            long g = Math.min(32767, (FOUR[0][p / 4] + FOUR[1][p / 4]) * 32767L + 64 >> 7);
            long sum = (FOUR[0][p % 4] + FOUR[3][p % 4]) * g;
            CHECK.due("at " + p, x.plain(4 + p % 4, p / 4), brought(128 + (sum + 2048 >> 12)));
        }
    }

    private static void samplesAreBroughtIntoTheirRange() {
        int[][] levels = new int[4][4];
        int[] row = {127, 128, 129, -127, -128, -129};
        System.arraycopy(row, 0, levels[1], 0, 4);
        System.arraycopy(row, 2, levels[2], 0, 4);
        IntraPicture x = small(4, 1, true, levels);
        int[] due = {255, 255, 255, 1};
        int[] next = {255, 1, 0, 0};
        for (int i = 0; i < 4; i++) {
            CHECK.due("plain(" + (4 + i) + ", 1)", x.plain(4 + i, 1), due[i]);
            CHECK.due("plain(" + (4 + i) + ", 2)", x.plain(4 + i, 2), next[i]);
        }
    }
}

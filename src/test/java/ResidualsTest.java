/** RESIDUALS and promise 9: the residuals that come out of the levels, and the samples before edges and offsets. */
public final class ResidualsTest {
    private static final Check CHECK = new Check("ResidualsTest");
    private static final int[] SCALES = {40, 45, 51, 57, 64, 72};
    private static final int[][] FOUR = {{29, 55, 74, 84}, {74, 74, 0, -74}, {84, -29, -74, 55}, {55, -84, 74, -29}};
    private static final int[][] EIGHT = {
        {64, 64, 64, 64, 64, 64, 64, 64},
        {89, 75, 50, 18, -18, -50, -75, -89},
        {83, 36, -36, -83, -83, -36, 36, 83},
        {75, -18, -89, -50, 50, 89, 18, -75},
        {64, -64, -64, 64, 64, -64, -64, 64},
        {50, -89, 18, 75, -75, -18, 89, -50},
        {36, -83, 83, -36, -36, 83, -83, 36},
        {18, -50, 75, -89, 89, -75, 50, -18}};

    // The numbers that the sentences name, in the order of Rule.
    private static final int[] RULES_4 = {1, -32768, 32767, 64, -32768, 32767, 2048};
    private static final int[] RULES_8 = {2, -32768, 32767, 64, -32768, 32767, 2048};

    private enum Rule {
        COEFFICIENT_PLUS, COEFFICIENT_LEAST, COEFFICIENT_MOST, G_PLUS, G_LEAST, G_MOST, RESIDUAL_PLUS
    }

    public static void main(String[] args) {
        CHECK.runAll(ResidualsTest.class);
        CHECK.end();
    }

    /** A grey picture whose second leaf, at (4, 0), has these levels. */
    private static Subject small(int qp, int skips, boolean skip, int[][] levels) {
        PictureWriter picture = new PictureWriter(false, skips == 1).block(true).leaf(1, Pictures.none(4));
        picture.leaf(1, skip, levels).leaf(1, null).leaf(1, null);
        picture.block(false).leaf(1, null).block(false).leaf(1, null).block(false).leaf(1, null);
        return Pictures.decoded(CHECK, "small", Bits.head(qp, 0, skips, 0, 0), picture, 7);
    }

    /** A grey picture whose second block, at (8, 0), is one leaf with these levels. */
    private static Subject large(int qp, int[][] levels) {
        PictureWriter picture = Pictures.greyBlock(new PictureWriter(false, false));
        picture.block(false).leaf(1, levels).block(false).leaf(1, null).block(false).leaf(1, null);
        return Pictures.decoded(CHECK, "large", Bits.head(qp, 0, 0, 0, 0), picture, 7);
    }

    private static long brought(long number, int least, int most) {
        return Math.max(least, Math.min(most, number));
    }

    /** The samples of a leaf that is predicted 128, with these rules. */
    private static int[][] plain(int qp, int[][] levels, int[] rules) {
        int side = levels.length;
        int[][] matrix = side == 4 ? FOUR : EIGHT;
        long[][] g = new long[side][side];
        int[][] plain = new int[side][side];
        for (int y = 0; y < side; y++) {
            for (int x = 0; x < side; x++) {
                long sum = rules[Rule.G_PLUS.ordinal()];
                for (int k = 0; k < side; k++) {
                    long scaled = ((long) levels[k][x] * SCALES[qp % 6] << qp / 6) + rules[Rule.COEFFICIENT_PLUS.ordinal()];
                    sum += matrix[k][y] * brought(scaled >> (side == 4 ? 1 : 2),
                        rules[Rule.COEFFICIENT_LEAST.ordinal()], rules[Rule.COEFFICIENT_MOST.ordinal()]);
                }
                g[y][x] = brought(sum >> 7, rules[Rule.G_LEAST.ordinal()], rules[Rule.G_MOST.ordinal()]);
            }
        }
        for (int y = 0; y < side; y++) {
            for (int x = 0; x < side; x++) {
                long sum = rules[Rule.RESIDUAL_PLUS.ordinal()];
                for (int k = 0; k < side; k++) {
                    sum += matrix[k][x] * g[y][k];
                }
                plain[y][x] = (int) brought(128 + (sum >> 12), 0, 255);
            }
        }
        return plain;
    }

    /** Levels at x, y, x, y and so on; if the rule's number were another by the difference, other samples would be due. */
    private static void sharp(Rule rule, int difference, int side, int qp, int... placesAndLevels) {
        int[][] levels = new int[side][side];
        for (int i = 0; i < placesAndLevels.length; i += 3) {
            levels[placesAndLevels[i + 1]][placesAndLevels[i]] = placesAndLevels[i + 2];
        }
        int[] rules = side == 4 ? RULES_4 : RULES_8;
        int[] others = rules.clone();
        others[rule.ordinal()] += difference;
        int[][] due = plain(qp, levels, rules);
        String name = rule + ", side " + side + ", difference " + difference;
        CHECK.due(name + ": sharp", java.util.Arrays.deepEquals(due, plain(qp, levels, others)), false);
        Subject x = side == 4 ? small(qp, 0, false, levels) : large(qp, levels);
        for (int p = 0; p < side * side; p++) {
            int atX = (side == 4 ? 4 : 8) + p % side;
            CHECK.due(name + ": plain(" + atX + ", " + p / side + ")", x.plain(atX, p / side), due[p / side][p % side]);
        }
    }

    @Says("RESIDUALS. S is 40, 45, 51, 57, 64, 72 for QP % 6 = 0 .. 5.")
    static void eachScale() {
        for (int qp = 0; qp <= 51; qp++) {
            for (int level : new int[] {1, -1, 5, -37, 129}) {
                long scaled = (long) level * SCALES[qp % 6] << qp / 6;
                long four = brought(scaled + 1 >> 1, -32768, 32767);
                long eight = brought(scaled + 2 >> 2, -32768, 32767);
                Subject x = small(qp, 0, false, Pictures.one(4, 1, 0, level));
                for (int p = 0; p < 16; p++) {
                    long due = brought(128 + (FOUR[1][p % 4] * (FOUR[0][p / 4] * four + 64 >> 7) + 2048 >> 12), 0, 255);
                    CHECK.due("QP " + qp + ", small, level " + level, x.plain(4 + p % 4, p / 4), due);
                }
                x = large(qp, Pictures.one(8, 0, 0, level));
                long due = brought(128 + (64 * (64 * eight + 64 >> 7) + 2048 >> 12), 0, 255);
                for (int p = 0; p < 64; p++) {
                    CHECK.due("QP " + qp + ", large, level " + level, x.plain(8 + p % 8, p / 8), due);
                }
            }
        }
    }

    @Says("A coefficient is level * S << QP / 6, plus 1 and then >> 1 for N = 4, plus 2 and then >> 2 for N = 8,")
    static void coefficientsAreRounded() {
        sharp(Rule.COEFFICIENT_PLUS, -1, 4, 2, 3, 0, 5);
        sharp(Rule.COEFFICIENT_PLUS, 1, 4, 2, 3, 0, 5);
        sharp(Rule.COEFFICIENT_PLUS, 1, 4, 7, 0, 3, -3);
        sharp(Rule.COEFFICIENT_PLUS, -1, 8, 8, 6, 3, -5);
        sharp(Rule.COEFFICIENT_PLUS, 1, 8, 3, 5, 2, -3);
        sharp(Rule.COEFFICIENT_PLUS, -1, 8, 3, 3, 0, 19, 2, 3, 9, 0, 4, -6);
    }

    @Says("brought to -32768 .. 32767 (what is less or more becomes the nearest).")
    static void coefficientsAreBroughtIntoTheirRange() {
        // At QP 46 a level is a coefficient of 4096 in a small leaf and of 2048 in a large one.
        for (int difference = -1; difference <= 1; difference += 2) {
            sharp(Rule.COEFFICIENT_MOST, difference, 4, 50, 1, 1, -9, 0, 2, 8);
            sharp(Rule.COEFFICIENT_LEAST, difference, 4, 47, 2, 0, 8, 1, 1, -9);
            sharp(Rule.COEFFICIENT_MOST, difference, 8, 50, 1, 1, -18, 5, 2, 11);
            sharp(Rule.COEFFICIENT_LEAST, difference, 8, 49, 0, 4, -7, 3, 4, -13);
        }
        for (int level : new int[] {7, 8, 9, 129}) {
            int[][] levels = new int[4][4];
            levels[0][0] = level;
            levels[0][2] = -level;
            Subject x = small(46, 0, false, levels);
            int[][] due = plain(46, levels, RULES_4);
            for (int p = 0; p < 16; p++) {
                CHECK.due("levels " + level + " and " + -level, x.plain(4 + p % 4, p / 4), due[p / 4][p % 4]);
            }
        }
    }

    @Says("If SKIP is 1, the residual at (x, y) is coefficient(x, y) * 128 + 2048 >> 12.")
    static void skippedResiduals() {
        int[][] levels = new int[4][4];
        for (int i = 0; i < 16; i++) {
            levels[i / 4][i % 4] = i % 5 == 0 ? 0 : 4 * i - 30;
        }
        Subject x = small(4, 1, true, levels);
        for (int i = 0; i < 16; i++) {
            CHECK.due("QP 4 at " + i, x.plain(4 + i % 4, i / 4), 128 + levels[i / 4][i % 4]);
        }
        // At QP 0 the levels 4 and -4 are the coefficients 80 and -80: 2.5 becomes 3, and -2.5 becomes -2.
        x = small(0, 1, true, Pictures.one(4, 2, 1, 4));
        CHECK.due("level 4", x.plain(6, 1), 131);
        x = small(0, 1, true, Pictures.one(4, 2, 1, -4));
        CHECK.due("level -4", x.plain(6, 1), 126);
        for (int qp = 0; qp <= 51; qp++) {
            for (int level : new int[] {1, -1, 5, -37, 129, -129}) {
                long four = brought(((long) level * SCALES[qp % 6] << qp / 6) + 1 >> 1, -32768, 32767);
                x = small(qp, 1, true, Pictures.one(4, 2, 3, level));
                CHECK.due("QP " + qp + ", level " + level, x.plain(6, 3), brought(128 + (four * 128 + 2048 >> 12), 0, 255));
                CHECK.due("QP " + qp + ", beside it", x.plain(5, 3), 128);
            }
        }
    }

    @Says({"If SKIP is 1,", "Otherwise with the matrix M:"})
    static void skipOrTheMatrix() {
        Subject with = small(40, 1, false, Pictures.one(4, 0, 0, 1));
        Subject without = small(40, 0, false, Pictures.one(4, 0, 0, 1));
        Subject skipped = small(40, 1, true, Pictures.one(4, 0, 0, 1));
        int[][] due = plain(40, Pictures.one(4, 0, 0, 1), RULES_4);
        for (int i = 0; i < 16; i++) {
            CHECK.due("SKIP 0 at " + i, with.plain(4 + i % 4, i / 4), due[i / 4][i % 4]);
            CHECK.due("SKIPS 0 at " + i, without.plain(4 + i % 4, i / 4), due[i / 4][i % 4]);
            CHECK.due("SKIP 1 at " + i, skipped.plain(4 + i % 4, i / 4), i == 0 ? 192 : 128);
        }
    }

    @Says("g(x, y) is the sum over k of M(k, y) * coefficient(x, k), plus 64, >> 7, brought to -32768 .. 32767;")
    static void sumsAreRoundedAndBroughtIntoTheirRange() {
        sharp(Rule.G_PLUS, -1, 4, 24, 3, 0, 21);
        sharp(Rule.G_PLUS, 1, 4, 8, 0, 2, -29);
        sharp(Rule.G_PLUS, -1, 8, 29, 0, 3, 15);
        sharp(Rule.G_PLUS, 1, 8, 9, 4, 6, -26);
        sharp(Rule.G_MOST, 1, 4, 46, 0, 0, 12, 2, 0, 5, 0, 3, -12, 2, 3, -10);
        sharp(Rule.G_MOST, -1, 4, 49, 0, 0, 12, 3, 0, -12, 0, 1, 8, 3, 2, -3);
        sharp(Rule.G_LEAST, 1, 4, 51, 3, 0, 8, 2, 1, -8, 3, 2, 10, 2, 3, 3);
        sharp(Rule.G_LEAST, -1, 4, 50, 2, 0, -5, 0, 1, 8, 2, 2, -6, 0, 3, -1);
        for (int difference = -1; difference <= 1; difference += 2) {
            sharp(Rule.G_MOST, difference, 8, 50, 4, 1, 10, 2, 3, 11, 5, 4, -17, 3, 5, 5, 5, 6, 19, 1, 7, 4);
            sharp(Rule.G_LEAST, difference, 8, 48, 7, 0, -18, 5, 2, -17, 7, 3, 14);
        }
    }

    @Says("the residual at (x, y) is the sum over k of M(k, x) * g(k, y), plus 2048, >> 12.")
    static void residualsAreRounded() {
        sharp(Rule.RESIDUAL_PLUS, -1, 4, 13, 3, 2, 26);
        sharp(Rule.RESIDUAL_PLUS, 1, 4, 10, 0, 0, 23);
        sharp(Rule.RESIDUAL_PLUS, -1, 8, 34, 7, 4, 28);
        sharp(Rule.RESIDUAL_PLUS, 1, 8, 4, 3, 2, 5);
    }

    @Says("For N = 4 the rows of M, k = 0 .. 3, are 29 55 74 84, 74 74 0 -74, 84 -29 -74 55, 55 -84 74 -29.")
    static void eachWaveOfASmallLeaf() {
        for (int i = 0; i < 32; i++) {
            int kx = i % 4;
            int ky = i / 4 % 4;
            int level = i < 16 ? 1 : -1;
            // The coefficient is 2048, so that g is 16 times the matrix.
            Subject x = small(40, 0, false, Pictures.one(4, kx, ky, level));
            for (int p = 0; p < 16; p++) {
                int due = 128 + (level * 16 * FOUR[ky][p / 4] * FOUR[kx][p % 4] + 2048 >> 12);
                CHECK.due("small wave " + i + " at " + p, x.plain(4 + p % 4, p / 4), due);
                CHECK.due("predicted", x.predicted(4 + p % 4, p / 4), 128);
            }
        }
    }

    @Says("For N = 8 M(0, n) is 64, and for k from 1 on M(k, n) is C((2n + 1) * k % 32), where C(0) .. C(8) are 91 "
        + "89 83 75 64 50 36 18 0, C(16 - j) = -C(j) for j = 0 .. 8, and C(32 - j) = C(j) for j = 1 .. 16.")
    static void eachWaveOfALargeLeaf() {
        for (int i = 0; i < 128; i++) {
            int kx = i % 8;
            int ky = i / 8 % 8;
            int level = i < 64 ? 1 : -1;
            Subject x = large(46, Pictures.one(8, kx, ky, level));
            for (int p = 0; p < 64; p++) {
                int due = 128 + (level * 16 * EIGHT[ky][p / 8] * EIGHT[kx][p % 8] + 2048 >> 12);
                CHECK.due("large wave " + i + " at " + p, x.plain(8 + p % 8, p / 8), due);
                CHECK.due("predicted", x.predicted(8 + p % 8, p / 8), 128);
            }
        }
    }

    @Says("A sample is what is predicted plus the residual, brought to 0 .. 255.")
    static void samplesAreBroughtIntoTheirRange() {
        int[] levels = {126, 127, 128, 129, -127, -128, -129, -1};
        int[] due = {254, 255, 255, 255, 1, 0, 0, 127};
        int[][] rows = new int[4][4];
        System.arraycopy(levels, 0, rows[1], 0, 4);
        System.arraycopy(levels, 4, rows[2], 0, 4);
        Subject x = small(4, 1, true, rows);
        for (int i = 0; i < 8; i++) {
            CHECK.due("128 plus " + levels[i], x.plain(4 + i % 4, 1 + i / 4), due[i]);
        }
        // Far beyond: residuals of more than 1,000, and of less than -1,000.
        x = small(51, 1, true, Pictures.one(4, 1, 1, 129));
        CHECK.due("much more", x.plain(5, 1), 255);
        x = small(51, 1, true, Pictures.one(4, 1, 1, -129));
        CHECK.due("much less", x.plain(5, 1), 0);
    }

    @Says("`int plain(int x, int y)`: The sample at (x, y) before edges and offsets; -1 likewise.")
    static void plainSamplesAreThoseBeforeEdgesAndOffsets() {
        PictureWriter picture = Pictures.greyBlock(new PictureWriter(false, false));
        picture.block(false).leaf(1, Pictures.one(8, 0, 0, 20)).block(false).leaf(2, null).block(false).leaf(3, null);
        Bits parameters = Bits.head(22, 0, 0, 1, 3).offsets(5, 5, 5, 5).number(3, 3);
        Subject x = Pictures.decoded(CHECK, "finished", parameters, picture, 7);
        for (int i = 0; i < 256; i++) {
            CHECK.due("plain(" + i % 16 + ", " + i / 16 + ")", x.plain(i % 16, i / 16), i % 16 < 8 ? 128 : 148);
        }
        CHECK.due("sample(7, 3)", x.sample(7, 3), 131 + 5);
        CHECK.due("sample(0, 3)", x.sample(0, 3), 128 + 5);
    }
}

/** THE PICTURE and the promises 11, 12 and 13: the levels, modes and sides of the leaves. */
public final class LeavesTest {
    private static final Check CHECK = new Check("LeavesTest");
    private static final Bits PARAMETERS = Bits.head(3, 0, 0, 0, 0);
    // The places of a group, by rising x + y and then by rising x.
    private static final int[][] ORDER = inOrder();

    public static void main(String[] args) {
        CHECK.runAll(LeavesTest.class);
        CHECK.end();
    }

    private static int[][] inOrder() {
        int[][] order = new int[16][];
        int at = 0;
        for (int sum = 0; sum <= 6; sum++) {
            for (int x = Math.max(0, sum - 3); x <= Math.min(3, sum); x++) {
                order[at++] = new int[] {x, sum - x};
            }
        }
        return order;
    }

    private static PictureWriter writer() {
        return new PictureWriter(false, false);
    }

    private static Subject decoded(String name, PictureWriter picture, int leaves) {
        return Pictures.decoded(CHECK, name, PARAMETERS, picture, leaves);
    }

    private static void levelsAre(String name, Subject x, int left, int top, int[][] due) {
        for (int dy = 0; dy < due.length; dy++) {
            for (int dx = 0; dx < due.length; dx++) {
                String call = name + ": level(" + (left + dx) + ", " + (top + dy) + ")";
                CHECK.due(call, x.level(left + dx, top + dy), due[dy][dx]);
            }
        }
    }

    /** What the chance of a context is behind these bins, a text of 0 and 1. */
    private static int chanceBehind(String bins) {
        int chance = 512;
        for (char bin : bins.toCharArray()) {
            chance = bin == '1' ? chance + (1023 - chance) / 16 : chance - chance / 16;
        }
        return chance;
    }

    private static void chanceIs(String name, Subject x, int context, String bins) {
        CHECK.due(name + ": chance(" + context + ") behind " + bins, x.chance(context), chanceBehind(bins));
    }

    private static int[][] counted(int side, int from) {
        int[][] levels = new int[side][side];
        for (int y = 0; y < side; y++) {
            for (int x = 0; x < side; x++) {
                int size = (from + 3 * x + 5 * y) % 7;
                levels[y][x] = (x + y) % 3 == 0 ? -size : size;
            }
        }
        return levels;
    }

    @Says("THE PICTURE has four BLOCKS of 8 by 8 samples, with the upper left corners (0, 0), (8, 0), (0, 8), (8, "
        + "8) (x to the right, y down), in this order.")
    static void blocksComeInOrder() {
        PictureWriter picture = writer().block(true);
        picture.leaf(1, Pictures.one(4, 0, 0, 11)).leaf(1, null).leaf(1, null).leaf(1, Pictures.one(4, 3, 3, 12));
        int[][] corners = {{8, 0}, {0, 8}, {8, 8}};
        for (int i = 0; i < 3; i++) {
            int[][] levels = Pictures.one(8, 0, 0, 21 + 10 * i);
            levels[7][7] = 22 + 10 * i;
            picture.block(false).leaf(1, levels);
        }
        Subject x = decoded("blocks", picture, 7);
        CHECK.due("level(0, 0)", x.level(0, 0), 11);
        CHECK.due("level(7, 7)", x.level(7, 7), 12);
        for (int i = 0; i < 3; i++) {
            CHECK.due("corner of block " + (i + 1), x.level(corners[i][0], corners[i][1]), 21 + 10 * i);
            CHECK.due("end of block " + (i + 1), x.level(corners[i][0] + 7, corners[i][1] + 7), 22 + 10 * i);
        }
    }

    @Says("For each: bin SPLIT, context 0 + how many of the blocks to its left and above it (as far as there are "
        + "such) are split.")
    static void contextsOfSplit() {
        for (int split = 0; split < 8; split++) {
            int[] is = {1, split & 1, split >> 1 & 1, split >> 2};
            PictureWriter picture = Pictures.greyBlock(writer());
            int leaves = 4;
            for (int block = 1; block < 4; block++) {
                picture.block(is[block] == 1);
                for (int i = 0; i < (is[block] == 1 ? 4 : 1); i++) {
                    picture.leaf(1, null);
                    leaves++;
                }
            }
            Subject x = decoded("split " + split, picture, leaves);
            // Block 0 has none, blocks 1 and 2 have block 0, block 3 has blocks 1 and 2.
            String[] bins = {"1", "" + is[1] + is[2], ""};
            bins[is[1] + is[2]] += is[3];
            for (int k = 0; k < 3; k++) {
                chanceIs("split " + split, x, k, bins[k]);
            }
        }
    }

    @Says("If it is 1, the block is SPLIT into four LEAVES of SIDE 4, in the same order; otherwise it is one leaf "
        + "of side 8.")
    static void leavesOfABlockComeInOrder() {
        PictureWriter picture = writer().block(true);
        for (int i = 0; i < 4; i++) {
            picture.leaf(1, counted(4, i));
        }
        picture.block(false).leaf(3, counted(8, 2)).block(false).leaf(2, counted(8, 5)).block(true);
        for (int i = 0; i < 4; i++) {
            picture.leaf(i, counted(4, i + 3));
        }
        Subject x = decoded("all", picture, 10);
        for (int i = 0; i < 4; i++) {
            levelsAre("first block", x, 4 * (i % 2), 4 * (i / 2), counted(4, i));
            levelsAre("last block", x, 8 + 4 * (i % 2), 8 + 4 * (i / 2), counted(4, i + 3));
        }
        levelsAre("second block", x, 8, 0, counted(8, 2));
        levelsAre("third block", x, 0, 8, counted(8, 5));
        for (int i = 0; i < 256; i++) {
            boolean small = i % 16 < 8 == i < 128;
            CHECK.due("side(" + i % 16 + ", " + i / 16 + ")", x.side(i % 16, i / 16), small ? 4 : 8);
        }
    }

    @Says({"A leaf of side N with the corner (X, Y):",
        "Bin SAME, context 3: if 1, the MODE is that of the leaf with the sample (X - 1, Y), 1 if there is no such "
        + "sample;"})
    static void theModeToTheLeft() {
        PictureWriter picture = writer().block(true).leaf(1, Pictures.none(4));
        picture.leaf(6, null).leaf(4, null).leaf(5, null);
        picture.block(false).leaf(6, null).block(false).leaf(1, null);
        picture.block(true).leaf(1, null).leaf(1, null).leaf(1, null).leaf(2, null);
        Subject x = decoded("left", picture, 10);
        CHECK.due("of two leaves to the left the upper one counts", x.mode(15, 7), 6);
        CHECK.due("1 at the left rim", x.mode(0, 15), 1);
        CHECK.due("from a large leaf", x.mode(8, 8), 1);
        CHECK.due("from a large leaf, further down", x.mode(8, 12), 1);
        CHECK.due("its own", x.mode(15, 15), 2);
        // Three modes of the first block and the last one: all others were the same as to the left.
        CHECK.due("took(1)", x.took(1), 12);
        chanceIs("left", x, 3, "1000111110");
    }

    @Says("1 if there is no such sample;")
    static void theModeAtTheLeftRimIs1() {
        // At the rim there are mode 1, then 5, then SAME and 6; all other leaves have mode 7.
        PictureWriter picture = writer().block(true).leaf(1, Pictures.none(4)).leaf(7, null).leaf(5, null).leaf(7, null);
        picture.block(false).leaf(7, null).block(true).leaf(1, null).leaf(7, null).leaf(6, null).leaf(7, null);
        picture.block(false).leaf(7, null);
        Subject x = decoded("rim", picture, 10);
        int[] rim = {1, 5, 1, 6};
        for (int y = 0; y < 16; y++) {
            CHECK.due("mode(0, " + y + ")", x.mode(0, y), rim[y / 4]);
            CHECK.due("mode(4, " + y + ")", x.mode(4, y), 7);
            CHECK.due("mode(15, " + y + ")", x.mode(15, y), 7);
        }
        CHECK.due("took(1)", x.took(1), 18);
        chanceIs("rim", x, 3, "1000110001");
        picture = writer().block(true).leaf(1, Pictures.none(4)).leaf(7, null).leaf(5, null).leaf(7, null);
        picture.block(false).leaf(7, null).block(false).leaf(1, null).block(false).leaf(1, null);
        x = decoded("large", picture, 7);
        CHECK.due("a large leaf at the rim", x.mode(0, 8), 1);
        CHECK.due("took(1)", x.took(1), 9);
    }

    @Says("if 0, it is the number of three free bits (the first is the highest).")
    static void everyMode() {
        for (int mode = 0; mode < 8; mode++) {
            PictureWriter picture = writer().block(true).leaf(1, Pictures.none(4));
            picture.leaf(mode, null).leaf(7 - mode, null).leaf(mode ^ 3, null);
            picture.block(false).leaf(mode ^ 5, null);
            picture.block(true).leaf(mode, null).leaf(mode ^ 1, null).leaf(mode ^ 2, null).leaf(mode ^ 4, null);
            picture.block(false).longLeaf(mode, false, null);
            Subject x = decoded("mode " + mode, picture, 10);
            int[][] due = {
                {1, mode, mode ^ 5, mode ^ 5}, {7 - mode, mode ^ 3, mode ^ 5, mode ^ 5},
                {mode, mode ^ 1, mode, mode}, {mode ^ 2, mode ^ 4, mode, mode}};
            for (int i = 0; i < 256; i++) {
                CHECK.due("mode(" + i % 16 + ", " + i / 16 + ")", x.mode(i % 16, i / 16), due[i / 64][i % 16 / 4]);
            }
            Pictures.takenAsWritten(CHECK, "mode " + mode, x, picture);
        }
    }

    @Says("Bin CODED, context 4 for N = 4, 5 for N = 8.")
    static void contextsOfCoded() {
        PictureWriter picture = writer().block(true);
        picture.leaf(1, Pictures.all(4, 1)).leaf(1, null).leaf(1, Pictures.none(4)).leaf(1, null);
        picture.block(false).leaf(1, null).block(false).leaf(1, Pictures.all(8, 1)).block(false).leaf(1, Pictures.none(8));
        Subject x = decoded("coded", picture, 7);
        chanceIs("coded", x, 4, "1010");
        chanceIs("coded", x, 5, "011");
    }

    @Says("If it is 0, all LEVELS of the leaf are 0.")
    static void levelsOfALeafThatIsNotCodedAreZero() {
        // The picture before has levels everywhere, and so has the leaf before.
        PictureWriter full = writer().block(true);
        for (int i = 0; i < 4; i++) {
            full.leaf(1, Pictures.all(4, 1));
        }
        for (int i = 0; i < 3; i++) {
            full.block(false).leaf(1, Pictures.all(8, -1));
        }
        PictureWriter picture = writer().block(true).leaf(1, Pictures.all(4, 1)).leaf(1, null);
        picture.leaf(1, Pictures.all(4, 1)).leaf(1, null);
        picture.block(false).leaf(1, null).block(false).leaf(1, Pictures.all(8, 1)).block(false).leaf(1, null);
        Subject x = new Bytes().unit(1, PARAMETERS.toBytes()).unit(2, full.toBytes()).unit(2, picture.toBytes()).fed();
        CHECK.due("decode()", x.decode(), 7);
        levelsAre("coded", x, 0, 0, Pictures.all(4, 1));
        levelsAre("not coded", x, 4, 0, Pictures.none(4));
        levelsAre("not coded", x, 4, 4, Pictures.none(4));
        levelsAre("not coded", x, 8, 0, Pictures.none(8));
        levelsAre("coded", x, 0, 8, Pictures.all(8, 1));
        levelsAre("not coded", x, 8, 8, Pictures.none(8));
    }

    @Says("Otherwise: if N is 4 and SKIPS is 1, bin SKIP, context 6 (else SKIP is 0).")
    static void skipIsReadForSmallCodedLeavesAlone() {
        for (int skips = 0; skips <= 1; skips++) {
            PictureWriter picture = new PictureWriter(false, skips == 1).block(true);
            picture.leaf(1, true, Pictures.all(4, 1)).leaf(1, null);
            picture.leaf(1, false, Pictures.all(4, 1)).leaf(1, true, Pictures.none(4));
            picture.block(false).leaf(1, Pictures.all(8, 1)).block(false).leaf(1, null);
            picture.block(false).leaf(1, Pictures.none(8));
            Subject x = Pictures.decoded(CHECK, "SKIPS " + skips, Bits.head(3, 0, skips, 0, 0), picture, 7);
            chanceIs("SKIPS " + skips, x, 6, skips == 1 ? "101" : "");
            Pictures.takenAsWritten(CHECK, "SKIPS " + skips, x, picture);
        }
    }

    @Says("(else SKIP is 0)")
    static void skipDoesNotLastToTheNextLeaf() {
        // With QP 22 a level 8 at (0, 0) of a large leaf is a residual of 8 at all its places, unless it is skipped.
        PictureWriter picture = new PictureWriter(false, true).block(true);
        picture.leaf(1, true, Pictures.none(4)).leaf(1, null).leaf(1, null).leaf(1, true, Pictures.none(4));
        picture.block(false).leaf(1, Pictures.one(8, 0, 0, 8));
        Pictures.greyLeaves(picture, 2);
        Subject x = Pictures.decoded(CHECK, "skipped, then large", Bits.head(22, 0, 1, 0, 0), picture, 7);
        for (int i = 0; i < 64; i++) {
            CHECK.due("plain(" + (8 + i % 8) + ", " + i / 8 + ")", x.plain(8 + i % 8, i / 8), 136);
        }
        // A small leaf that is not skipped, behind one that is: its residuals are all over it.
        picture = new PictureWriter(false, true).block(true).leaf(1, true, Pictures.none(4));
        picture.leaf(1, false, Pictures.one(4, 0, 0, 8)).leaf(1, null).leaf(1, null);
        x = Pictures.decoded(CHECK, "skipped, then small", Bits.head(40, 0, 1, 0, 0), Pictures.greyLeaves(picture, 3), 7);
        CHECK.due("plain(7, 3)", x.plain(7, 3), 255);
    }

    @Says("Then the GROUPS, of 4 by 4 levels each: one for N = 4; four for N = 8, in the order of the blocks.")
    static void groupsComeInTheOrderOfTheBlocks() {
        int[][] levels = new int[8][8];
        for (int g = 0; g < 4; g++) {
            levels[4 * (g / 2)][4 * (g % 2)] = g + 1;
            levels[4 * (g / 2) + 3][4 * (g % 2) + 1] = -g - 10;
        }
        PictureWriter picture = Pictures.greyBlock(writer()).block(false).leaf(1, levels);
        Subject x = decoded("groups", Pictures.greyLeaves(picture, 2), 7);
        levelsAre("groups", x, 8, 0, levels);
        Pictures.takenAsWritten(CHECK, "groups", x, picture);
    }

    @Says("For each group, if N is 8: bin FILLED, context 7 for the first one, 8 for the others; if it is 0, its "
        + "levels are 0.")
    static void groupsThatAreNotFilled() {
        for (int filled = 0; filled < 16; filled++) {
            int[][] levels = new int[8][8];
            StringBuilder others = new StringBuilder();
            for (int g = 0; g < 4; g++) {
                int bin = filled >> g & 1;
                levels[4 * (g / 2)][4 * (g % 2)] = bin * (g + 1);
                levels[4 * (g / 2) + 3][4 * (g % 2) + 3] = bin * (-g - 1);
                others.append(g > 0 ? "" + bin : "");
            }
            String name = "filled " + filled;
            PictureWriter picture = writer().block(true).leaf(1, Pictures.all(4, 1)).leaf(1, null).leaf(1, null);
            picture.leaf(1, Pictures.all(4, 1));
            picture.block(false).leaf(1, levels);
            Subject x = decoded(name, Pictures.greyLeaves(picture, 2), 7);
            levelsAre(name, x, 8, 0, levels);
            chanceIs(name, x, 7, "" + (filled & 1));
            chanceIs(name, x, 8, others.toString());
        }
    }

    @Says("For each group, if N is 8: bin FILLED, context 7 for the first one, 8 for the others; if it is 0, its "
        + "levels are 0.")
    static void filledGroupsMayBeEmpty() {
        PictureWriter picture = Pictures.greyBlock(writer()).block(false).longLeaf(1, false, Pictures.one(8, 2, 6, 5));
        Subject x = decoded("filled", Pictures.greyLeaves(picture, 2), 7);
        levelsAre("filled", x, 8, 0, Pictures.one(8, 2, 6, 5));
        chanceIs("filled", x, 7, "1");
        chanceIs("filled", x, 8, "111");
        CHECK.due("took(0)", x.took(0), 4 + 14 + 16 + 4 + 64 + 2);
    }

    @Says("Otherwise (and always for N = 4) the 16 places (x, y) of the group are gone through by rising x + y, "
        + "those of equal sum by rising x:")
    static void thePlacesOfAGroupInOrder() {
        for (int i = 0; i < 16; i++) {
            // Bins are written one by one: i times NOTZERO is 0, then it is 1; what lies right of that or below has context 10.
            PictureWriter picture = writer().block(true);
            picture.bin(3, 1);
            picture.bin(4, 1);
            for (int j = 0; j < 16; j++) {
                int across = ORDER[j][0] - ORDER[i][0];
                int down = ORDER[j][1] - ORDER[i][1];
                picture.bin(across + down == 1 && across * down == 0 ? 10 : 9, j == i ? 1 : 0);
                if (j == i) {
                    picture.bin(12, 0);
                }
            }
            picture.free(1, 1);
            for (int leaf = 1; leaf < 4; leaf++) {
                picture.bin(3, 1);
                picture.bin(4, 0);
            }
            String name = "place " + i;
            Subject x = decoded(name, Pictures.greyLeaves(picture, 3), 7);
            levelsAre(name, x, 0, 0, Pictures.one(4, ORDER[i][0], ORDER[i][1], -1));
            Pictures.takenAsWritten(CHECK, name, x, picture);
        }
        int[][] first = {{0, 0}, {0, 1}, {1, 0}, {0, 2}, {1, 1}, {2, 0}};
        for (int i = 0; i < first.length; i++) {
            CHECK.due("x of place " + i, ORDER[i][0], first[i][0]);
            CHECK.due("y of place " + i, ORDER[i][1], first[i][1]);
        }
    }

    @Says("bin NOTZERO, context 9 + how many of the places to the left and above, in the group, are not zero.")
    static void contextsOfNotZeroStayInTheGroup() {
        // In a full group one place has context 9, six have 10 and nine have 11, whatever lies round the group.
        PictureWriter picture = writer().block(true);
        for (int i = 0; i < 4; i++) {
            picture.leaf(1, Pictures.all(4, 1));
        }
        for (int i = 0; i < 3; i++) {
            picture.block(false).leaf(1, Pictures.all(8, 1));
        }
        Subject x = decoded("full groups", picture, 7);
        chanceIs("full groups", x, 9, "1".repeat(16));
        chanceIs("full groups", x, 10, "1".repeat(96));
        chanceIs("full groups", x, 11, "1".repeat(144));
        // One level in the middle, at (1, 1): the places (2, 1) and (1, 2) have context 10, all others 9.
        picture = writer().block(true).leaf(1, Pictures.one(4, 1, 1, 1)).leaf(1, null).leaf(1, null).leaf(1, null);
        x = decoded("one level", Pictures.greyLeaves(picture, 3), 7);
        chanceIs("one level", x, 9, "0000" + "1" + "000000000");
        chanceIs("one level", x, 10, "00");
        chanceIs("one level", x, 11, "");
        // At (3, 0) and (0, 3), the rims of the group: none lies right of the one or below the other.
        int[][] rims = Pictures.one(4, 3, 0, 1);
        rims[3][0] = 1;
        picture = writer().block(true).leaf(1, rims).leaf(1, null).leaf(1, null).leaf(1, null);
        x = decoded("rims", Pictures.greyLeaves(picture, 3), 7);
        chanceIs("rims", x, 9, "000000" + "1" + "00" + "1" + "0000");
        chanceIs("rims", x, 10, "00");
        chanceIs("rims", x, 11, "");
    }

    @Says("If it is 1: bin TWO, context 12: if 0 the size of the level is 1; otherwise bin THREE, context 13: if 0 "
        + "it is 2;")
    static void sizesOneTwoAndThree() {
        String[] twos = {"0", "1", "1"};
        String[] threes = {"", "0", "1"};
        int[] freeBits = {1, 1, 2};
        for (int size = 1; size <= 3; size++) {
            PictureWriter picture = writer().block(true).leaf(1, Pictures.one(4, 0, 0, size));
            picture.leaf(1, null).leaf(1, null).leaf(1, null);
            Subject x = decoded("size " + size, Pictures.greyLeaves(picture, 3), 7);
            levelsAre("size " + size, x, 0, 0, Pictures.one(4, 0, 0, size));
            chanceIs("size " + size, x, 12, twos[size - 1]);
            chanceIs("size " + size, x, 13, threes[size - 1]);
            CHECK.due("size " + size + ": took(1)", x.took(1), freeBits[size - 1]);
        }
    }

    @Says("otherwise free bits: k of them that are 1 and one that is 0 (after six 1 none that is 0), then k bits "
        + "that are the number r: the size is 2 + 2^k + r.")
    static void eachSizeFrom3To129() {
        int[] ends = {3, 5, 9, 17, 33, 65, 129};
        int[] freeBits = {1, 3, 5, 7, 9, 11, 12};
        int k = 0;
        for (int size = 3; size <= 129; size++) {
            k = size > ends[k] ? k + 1 : k;
            PictureWriter picture = writer().block(true);
            picture.leaf(1, Pictures.one(4, 0, 0, size)).leaf(1, Pictures.one(4, 2, 1, -size)).leaf(1, null).leaf(1, null);
            Subject x = decoded("size " + size, Pictures.greyLeaves(picture, 3), 7);
            levelsAre("size " + size, x, 0, 0, Pictures.one(4, 0, 0, size));
            levelsAre("size " + size, x, 4, 0, Pictures.one(4, 2, 1, -size));
            CHECK.due("size " + size + ": took(1)", x.took(1), 2 * (freeBits[k] + 1));
            Pictures.takenAsWritten(CHECK, "size " + size, x, picture);
        }
    }

    @Says("Then the SIGNS, in the same order: one free bit for each level that is not 0, 1 for below zero;")
    static void signsComeInOrder() {
        for (int below = 0; below < 16; below++) {
            int[][] levels = new int[4][4];
            int[] places = {0, 1, 2, 3};
            for (int i = 0; i < 4; i++) {
                int[] place = ORDER[places[i]];
                levels[place[1]][place[0]] = (below >> i & 1) == 1 ? -i - 1 : i + 1;
            }
            PictureWriter picture = writer().block(true).leaf(1, levels).leaf(1, null).leaf(1, null).leaf(1, null);
            Subject x = decoded("signs " + below, Pictures.greyLeaves(picture, 3), 7);
            levelsAre("signs " + below, x, 0, 0, levels);
            CHECK.due("signs " + below + ": took(1)", x.took(1), 4 + 1 + 3);
        }
    }

    private static int[][] two(int first, int firstLevel, int last, int lastLevel) {
        int[][] levels = new int[4][4];
        levels[ORDER[first][1]][ORDER[first][0]] = firstLevel;
        levels[ORDER[last][1]][ORDER[last][0]] = lastLevel;
        return levels;
    }

    private static Subject hideOne(String name, int hide, int[][] levels, int freeBits) {
        PictureWriter picture = new PictureWriter(hide == 1, false).block(true).leaf(1, levels);
        picture.leaf(1, null).leaf(1, null).leaf(1, null);
        Subject x = Pictures.decoded(CHECK, name, Bits.head(3, hide, 0, 0, 0), Pictures.greyLeaves(picture, 3), 7);
        CHECK.due(name + ": took(1)", x.took(1), freeBits);
        return x;
    }

    @Says("but if HIDE is 1 and the first and the last of these levels are 4 or more apart in the order, the first "
        + "one has no bit:")
    static void signsAreHiddenFromAWidthOf4On() {
        for (int first = 0; first < 16; first++) {
            for (int last = first + 1; last < 16; last++) {
                boolean hidden = last - first >= 4;
                String name = "from " + first + " to " + last;
                // 1 + 2 is odd: below zero. 1 + 1 is even: not below zero.
                int[][] odd = two(first, hidden ? -1 : 1, last, 2);
                levelsAre(name, hideOne(name, 1, two(first, 1, last, 2), hidden ? 1 : 2), 0, 0, odd);
                int[][] even = two(first, hidden ? 1 : -1, last, -1);
                levelsAre(name, hideOne(name, 1, two(first, -1, last, -1), hidden ? 1 : 2), 0, 0, even);
            }
        }
    }

    @Says("if HIDE is 1 and the first and the last of these levels are 4 or more apart in the order")
    static void signsThatAreNotHidden() {
        int[][] wide = two(0, 1, 15, 2);
        levelsAre("HIDE is 0", hideOne("HIDE is 0", 0, wide, 2), 0, 0, wide);
        levelsAre("HIDE is 1", hideOne("HIDE is 1", 1, wide, 1), 0, 0, two(0, -1, 15, 2));
        for (int i = 0; i < 16; i++) {
            int[][] single = Pictures.one(4, ORDER[i][0], ORDER[i][1], 1);
            levelsAre("one level", hideOne("one level", 1, single, 1), 0, 0, single);
        }
        levelsAre("no level", hideOne("no level", 1, Pictures.none(4), 0), 0, 0, Pictures.none(4));
    }

    @Says("it is below zero if the sum of the group's sizes is odd.")
    static void hiddenSignsComeFromTheSumOfTheGroup() {
        // Three levels of all kinds of sizes: the one between counts too, and the signs do not.
        for (int i = 0; i < 64; i++) {
            int first = 1 + (i & 3);
            int between = (i >> 2 & 1) == 1 ? -1 : 2;
            int last = (i >> 3 & 1) == 1 ? -3 : 4;
            int[][] levels = two(2, first, 11, last);
            levels[ORDER[7][1]][ORDER[7][0]] = between;
            int[][] due = new int[4][];
            for (int y = 0; y < 4; y++) {
                due[y] = levels[y].clone();
            }
            boolean odd = (first + Math.abs(between) + Math.abs(last)) % 2 == 1;
            due[ORDER[2][1]][ORDER[2][0]] = odd ? -first : first;
            int forSizes = (first == 3 ? 1 : first == 4 ? 3 : 0) + (last == -3 ? 1 : 3);
            levelsAre("sum " + i, hideOne("sum " + i, 1, levels, forSizes + 2), 0, 0, due);
        }
    }

    @Says("it is below zero if the sum of the group's sizes is odd.")
    static void eachGroupHidesASignOfItsOwn() {
        int[][] levels = new int[8][8];
        int[][] due = new int[8][8];
        for (int g = 0; g < 4; g++) {
            int x = 4 * (g % 2);
            int y = 4 * (g / 2);
            levels[y][x] = 1;
            levels[y + 3][x + 3] = 1 + g % 2;
            due[y][x] = g % 2 == 1 ? -1 : 1;
            due[y + 3][x + 3] = 1 + g % 2;
        }
        PictureWriter picture = Pictures.greyBlock(new PictureWriter(true, false)).block(false).leaf(1, levels);
        Subject x = Pictures.decoded(CHECK, "groups", Bits.head(3, 1, 0, 0, 0), Pictures.greyLeaves(picture, 2), 7);
        levelsAre("groups", x, 8, 0, due);
        CHECK.due("took(1)", x.took(1), 4);
    }
}

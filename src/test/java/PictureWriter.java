import java.math.BigInteger;

/**
 * Writes the rest of a picture's unit: the other way round of what the class reads.
 *
 * The decoder takes only eight bits at first but has a RANGE of 510: so the first block is always split, its first leaf
 * always has SAME, and that leaf should be coded (its levels may be 0), for else what comes behind is bound too.
 */
final class PictureWriter {
    private static final int[][] ORDER = {
        {0, 0}, {0, 1}, {1, 0}, {0, 2}, {1, 1}, {2, 0}, {0, 3}, {1, 2}, {2, 1}, {3, 0},
        {1, 3}, {2, 2}, {3, 1}, {2, 3}, {3, 2}, {3, 3}};

    private final boolean hide;
    private final boolean skips;
    private final int[] chances = new int[14];
    private final boolean[] split = new boolean[4];
    private final int[][] modes = new int[4][4];
    private BigInteger low = BigInteger.ZERO;
    private int range = 510;
    private int rangeBeforeDoubling = 510;
    private int bitsRead = 8;
    private int bins = 0;
    private int freeBits = 0;
    private int block = -1;
    private int leavesInBlock = 0;

    PictureWriter(boolean hide, boolean skips) {
        this.hide = hide;
        this.skips = skips;
        java.util.Arrays.fill(chances, 512);
    }

    void bin(int context, int bin) {
        int p = chances[context];
        int likely = p >= 512 ? 1 : 0;
        int u = Math.min(p, 1023 - p) / 32;
        int part = range / 32 * u / 2 + 4;
        if (bin == likely) {
            range -= part;
        } else {
            low = low.add(BigInteger.valueOf(range - part));
            range = part;
        }
        chances[context] = bin == 1 ? p + (1023 - p) / 16 : p - p / 16;
        rangeBeforeDoubling = range;
        while (range < 256) {
            range *= 2;
            low = low.shiftLeft(1);
            bitsRead++;
        }
        bins++;
    }

    void free(int number, int bits) {
        for (int i = bits - 1; i >= 0; i--) {
            low = low.shiftLeft(1);
            bitsRead++;
            freeBits++;
            if ((number >> i & 1) == 1) {
                low = low.add(BigInteger.valueOf(range));
            }
        }
    }

    /** Begins the next block. */
    PictureWriter block(boolean isSplit) {
        block++;
        leavesInBlock = 0;
        int context = 0;
        if (block % 2 == 1 && split[block - 1]) {
            context++;
        }
        if (block >= 2 && split[block - 2]) {
            context++;
        }
        split[block] = isSplit;
        bin(context, isSplit ? 1 : 0);
        return this;
    }

    /** The next leaf of the block, with SAME if its mode allows that; its levels are [y][x], null if it is not coded. */
    PictureWriter leaf(int mode, boolean skip, int[][] levels) {
        head(mode, mode == modeToTheLeft());
        body(mode, skip, levels, false);
        return this;
    }

    PictureWriter leaf(int mode, int[][] levels) {
        return leaf(mode, false, levels);
    }

    /** A leaf whose mode is written out even if it is the one to the left, and whose empty groups are filled. */
    PictureWriter longLeaf(int mode, boolean skip, int[][] levels) {
        head(mode, block == 0 && leavesInBlock == 0);
        body(mode, skip, levels, true);
        return this;
    }

    private int cellX() {
        return block % 2 * 2 + leavesInBlock % 2;
    }

    private int cellY() {
        return block / 2 * 2 + leavesInBlock / 2;
    }

    private int modeToTheLeft() {
        return cellX() == 0 ? 1 : modes[cellY()][cellX() - 1];
    }

    private void head(int mode, boolean same) {
        bin(3, same ? 1 : 0);
        if (!same) {
            free(mode, 3);
        }
    }

    private void body(int mode, boolean skip, int[][] levels, boolean fillAll) {
        int cells = split[block] ? 1 : 2;
        for (int j = 0; j < cells; j++) {
            for (int i = 0; i < cells; i++) {
                modes[cellY() + j][cellX() + i] = mode;
            }
        }
        leavesInBlock++;
        bin(split[block] ? 4 : 5, levels == null ? 0 : 1);
        if (levels == null) {
            return;
        }
        if (split[block]) {
            if (skips) {
                bin(6, skip ? 1 : 0);
            }
            group(levels, 0, 0);
            return;
        }
        for (int g = 0; g < 4; g++) {
            boolean filled = fillAll || !isEmpty(levels, g % 2 * 4, g / 2 * 4);
            bin(g == 0 ? 7 : 8, filled ? 1 : 0);
            if (filled) {
                group(levels, g % 2 * 4, g / 2 * 4);
            }
        }
    }

    private static boolean isEmpty(int[][] levels, int x, int y) {
        for (int[] place : ORDER) {
            if (levels[y + place[1]][x + place[0]] != 0) {
                return false;
            }
        }
        return true;
    }

    private void group(int[][] levels, int x, int y) {
        int first = -1;
        int last = -1;
        for (int i = 0; i < 16; i++) {
            int dx = ORDER[i][0];
            int dy = ORDER[i][1];
            int level = levels[y + dy][x + dx];
            int before = 0;
            if (dx > 0 && levels[y + dy][x + dx - 1] != 0) {
                before++;
            }
            if (dy > 0 && levels[y + dy - 1][x + dx] != 0) {
                before++;
            }
            bin(9 + before, level == 0 ? 0 : 1);
            if (level != 0) {
                size(Math.abs(level));
                first = first < 0 ? i : first;
                last = i;
            }
        }
        for (int i = 0; i < 16; i++) {
            int level = levels[y + ORDER[i][1]][x + ORDER[i][0]];
            boolean hidden = hide && i == first && last - first >= 4;
            if (level != 0 && !hidden) {
                free(level < 0 ? 1 : 0, 1);
            }
        }
    }

    private void size(int size) {
        bin(12, size >= 2 ? 1 : 0);
        if (size >= 2) {
            bin(13, size >= 3 ? 1 : 0);
        }
        if (size >= 3) {
            int k = 31 - Integer.numberOfLeadingZeros(size - 2);
            free((1 << k) - 1, k);
            if (k < 6) {
                free(0, 1);
            }
            free(size - 2 - (1 << k), k);
        }
    }

    int chance(int context) {
        return chances[context];
    }

    int took(int k) {
        return k == 0 ? bins : k == 1 ? freeBits : bitsRead;
    }

    /** What RANGE was behind the latest bin, before it was doubled. */
    int rangeBeforeDoubling() {
        return rangeBeforeDoubling;
    }

    /** The lowest bits that stand for the picture; zeros at the end are left away, for beyond the end all bits are 0. */
    int[] toBytes() {
        int[] row = bytesOf(low, 0);
        int length = row.length;
        while (length > 0 && row[length - 1] == 0) {
            length--;
        }
        return java.util.Arrays.copyOf(row, length);
    }

    /** The highest bits that stand for the picture, and then bits 1. */
    int[] toHighestBytes() {
        return bytesOf(low.add(BigInteger.valueOf(range - 1)), 1);
    }

    private int[] bytesOf(BigInteger bits, int filler) {
        if (bits.bitLength() > bitsRead) {
            throw new IllegalStateException("no bits can stand for these bins");
        }
        int bytes = (bitsRead + 7) / 8;
        BigInteger all = bits;
        for (int i = bitsRead; i < 8 * bytes; i++) {
            all = all.shiftLeft(1).add(BigInteger.valueOf(filler));
        }
        int[] row = new int[bytes];
        for (int i = 0; i < bytes; i++) {
            row[i] = all.shiftRight(8 * (bytes - 1 - i)).intValue() & 255;
        }
        return row;
    }
}

/** Promises 11, 12 and 13: the levels, modes and sides of the leaves. */
public final class LeavesTest {
    private static final Check CHECK = new Check("LeavesTest");
    private static final int[][] ORDER = {
        {0, 0}, {0, 1}, {1, 0}, {0, 2}, {1, 1}, {2, 0}, {0, 3}, {1, 2}, {2, 1}, {3, 0},
        {1, 3}, {2, 2}, {3, 1}, {2, 3}, {3, 2}, {3, 3}};

    public static void main(String[] args) {
        eachSize();
        levelsLieWhereTheyWereWritten();
        groupsOfALargeLeaf();
        everyModeAndSide();
        theModeToTheLeft();
        hiddenSigns();
        signsAreNotHiddenWithoutHide();
        hiddenSignsOfEachGroup();
        levelsOfAPictureBeforeAreGone();
        wrongPlaces();
        CHECK.end();
    }

    private static void restIsGrey(PictureWriter picture, int blocks) {
        for (int i = 0; i < blocks; i++) {
            picture.block(false).leaf(1, null);
        }
    }

    private static void levelsAre(String name, IntraPicture x, int left, int top, int[][] due) {
        for (int dy = 0; dy < due.length; dy++) {
            for (int dx = 0; dx < due.length; dx++) {
                String call = name + ": level(" + (left + dx) + ", " + (top + dy) + ")";
                CHECK.due(call, x.level(left + dx, top + dy), due[dy][dx]);
            }
        }
    }

    private static void eachSize() {
        for (int size = 1; size <= 129; size++) {
            PictureWriter picture = new PictureWriter(false, false).block(true);
            picture.leaf(1, Pictures.one(4, 0, 0, size)).leaf(1, Pictures.one(4, 2, 1, -size)).leaf(1, null).leaf(1, null);
            restIsGrey(picture, 3);
            IntraPicture x = Pictures.decoded(CHECK, "size " + size, Bits.head(0, 0, 0, 0, 0), picture, 7);
            levelsAre("size " + size, x, 0, 0, Pictures.one(4, 0, 0, size));
            levelsAre("size " + size, x, 4, 0, Pictures.one(4, 2, 1, -size));
            for (int k = 0; k < 3; k++) {
                CHECK.due("size " + size + ": took(" + k + ")", x.took(k), picture.took(k));
            }
        }
    }

    private static int[][] counted(int side, int from) {
        int[][] levels = new int[side][side];
        for (int y = 0; y < side; y++) {
            for (int x = 0; x < side; x++) {
                int size = (from + 3 * x + 5 * y) % 7;
                levels[y][x] = (x + y) % 3 == 0 ? -size : size;
            }
        }
        return levels;
    }

    private static void levelsLieWhereTheyWereWritten() {
        PictureWriter picture = new PictureWriter(false, false).block(true);
        for (int i = 0; i < 4; i++) {
            picture.leaf(1, counted(4, i));
        }
        picture.block(false).leaf(3, counted(8, 2)).block(false).leaf(2, counted(8, 5)).block(true);
        for (int i = 0; i < 4; i++) {
            picture.leaf(i, counted(4, i + 3));
        }
        IntraPicture x = Pictures.decoded(CHECK, "all", Bits.head(3, 0, 0, 0, 0), picture, 10);
        for (int i = 0; i < 4; i++) {
            levelsAre("first block", x, 4 * (i % 2), 4 * (i / 2), counted(4, i));
            levelsAre("last block", x, 8 + 4 * (i % 2), 8 + 4 * (i / 2), counted(4, i + 3));
        }
        levelsAre("second block", x, 8, 0, counted(8, 2));
        levelsAre("third block", x, 0, 8, counted(8, 5));
    }

    private static void groupsOfALargeLeaf() {
        for (int filled = 0; filled < 16; filled++) {
            int[][] levels = new int[8][8];
            for (int g = 0; g < 4; g++) {
                if ((filled >> g & 1) == 1) {
                    levels[4 * (g / 2)][4 * (g % 2)] = g + 1;
                    levels[4 * (g / 2) + 3][4 * (g % 2) + 1] = -g - 1;
                }
            }
            PictureWriter picture = Pictures.greyBlock(new PictureWriter(false, true));
            picture.block(false).leaf(1, levels);
            picture.block(false).longLeaf(1, false, levels);
            restIsGrey(picture, 1);
            IntraPicture x = Pictures.decoded(CHECK, "filled " + filled, Bits.head(3, 0, 1, 0, 0), picture, 7);
            levelsAre("filled " + filled, x, 8, 0, levels);
            levelsAre("filled " + filled, x, 0, 8, levels);
            levelsAre("filled " + filled, x, 8, 8, Pictures.none(8));
            CHECK.due("no SKIP for a large leaf", x.chance(6), 480);
        }
    }

    private static void everyModeAndSide() {
        for (int mode = 0; mode < 8; mode++) {
            PictureWriter picture = new PictureWriter(false, false).block(true).leaf(1, Pictures.none(4));
            picture.leaf(mode, null).leaf(7 - mode, null).leaf(mode ^ 3, null);
            picture.block(false).leaf(mode ^ 5, null);
            picture.block(true).leaf(mode, null).leaf(mode ^ 1, null).leaf(mode ^ 2, null).leaf(mode ^ 4, null);
            picture.block(false).leaf(mode, null);
            IntraPicture x = Pictures.decoded(CHECK, "mode " + mode, Bits.head(3, 0, 0, 0, 0), picture, 10);
            int[][] due = {
                {1, mode, mode ^ 5, mode ^ 5}, {7 - mode, mode ^ 3, mode ^ 5, mode ^ 5},
                {mode, mode ^ 1, mode, mode}, {mode ^ 2, mode ^ 4, mode, mode}};
            for (int i = 0; i < 256; i++) {
                int atX = i % 16;
                int atY = i / 16;
                String at = "(" + atX + ", " + atY + ")";
                CHECK.due("mode" + at, x.mode(atX, atY), due[atY / 4][atX / 4]);
                CHECK.due("side" + at, x.side(atX, atY), atX >= 8 ? 8 : 4);
            }
        }
    }

    private static void theModeToTheLeft() {
        PictureWriter picture = new PictureWriter(false, false).block(true).leaf(1, Pictures.none(4));
        picture.leaf(6, null).leaf(4, null).leaf(5, null).block(false);
        picture.leaf(6, null).block(false).leaf(1, null).block(true).leaf(1, null).leaf(1, null).leaf(1, null).leaf(2, null);
        IntraPicture x = Pictures.decoded(CHECK, "left", Bits.head(3, 0, 0, 0, 0), picture, 10);
        CHECK.due("the upper leaf counts", x.mode(15, 7), 6);
        CHECK.due("1 at the left rim", x.mode(0, 15), 1);
        CHECK.due("from the large leaf", x.mode(8, 12), 1);
        CHECK.due("its own", x.mode(15, 15), 2);
        // Three modes of the first block and the last one: all others were the same as to the left.
        CHECK.due("took(1)", x.took(1), 12);
    }

    private static int[][] two(int first, int firstLevel, int last, int lastLevel) {
        int[][] levels = new int[4][4];
        levels[ORDER[first][1]][ORDER[first][0]] = firstLevel;
        levels[ORDER[last][1]][ORDER[last][0]] = lastLevel;
        return levels;
    }

    private static IntraPicture hideOne(String name, int hide, int[][] levels, int freeBits) {
        PictureWriter picture = new PictureWriter(hide == 1, false).block(true).leaf(1, levels);
        picture.leaf(1, null).leaf(1, null).leaf(1, null);
        restIsGrey(picture, 3);
        IntraPicture x = Pictures.decoded(CHECK, name, Bits.head(3, hide, 0, 0, 0), picture, 7);
        CHECK.due(name + ": took(1)", x.took(1), freeBits);
        return x;
    }

    private static void hiddenSigns() {
        for (int first = 0; first < 16; first++) {
            for (int last = first + 1; last < 16; last++) {
                boolean hidden = last - first >= 4;
                String name = "from " + first + " to " + last;
                // 1 + 2 is odd: below zero. 1 + 1 is even: above zero.
                int[][] odd = two(first, hidden ? -1 : 1, last, 2);
                levelsAre(name, hideOne(name, 1, two(first, 1, last, 2), hidden ? 1 : 2), 0, 0, odd);
                int[][] even = two(first, hidden ? 1 : -1, last, -1);
                levelsAre(name, hideOne(name, 1, two(first, -1, last, -1), hidden ? 1 : 2), 0, 0, even);
            }
        }
    }

    private static void signsAreNotHiddenWithoutHide() {
        int[][] levels = two(0, 1, 15, 2);
        levelsAre("no HIDE", hideOne("no HIDE", 0, levels, 2), 0, 0, levels);
        int[][] single = Pictures.one(4, 3, 3, 1);
        levelsAre("one level", hideOne("one level", 1, single, 1), 0, 0, single);
        levelsAre("no level", hideOne("no level", 1, Pictures.none(4), 0), 0, 0, Pictures.none(4));
    }

    private static void hiddenSignsOfEachGroup() {
        int[][] levels = new int[8][8];
        int[][] due = new int[8][8];
        for (int g = 0; g < 4; g++) {
            int x = 4 * (g % 2);
            int y = 4 * (g / 2);
            levels[y][x] = 1;
            levels[y + 3][x + 3] = 1 + g % 2;
            due[y][x] = g % 2 == 1 ? -1 : 1;
            due[y + 3][x + 3] = 1 + g % 2;
        }
        PictureWriter picture = Pictures.greyBlock(new PictureWriter(true, false)).block(false).leaf(1, levels);
        restIsGrey(picture, 2);
        IntraPicture x = Pictures.decoded(CHECK, "groups", Bits.head(3, 1, 0, 0, 0), picture, 7);
        levelsAre("groups", x, 8, 0, due);
    }

    private static void levelsOfAPictureBeforeAreGone() {
        PictureWriter full = new PictureWriter(false, false).block(true);
        for (int i = 0; i < 4; i++) {
            full.leaf(1, counted(4, i));
        }
        full.block(false).leaf(1, counted(8, 1));
        restIsGrey(full, 2);
        PictureWriter empty = Pictures.greyBlock(new PictureWriter(false, false)).block(false).leaf(1, Pictures.none(8));
        restIsGrey(empty, 2);
        IntraPicture x = new Bytes().unit(1, 0x80).unit(2, full.toBytes()).unit(2, empty.toBytes()).fed();
        CHECK.due("decode()", x.decode(), 7);
        levelsAre("gone", x, 0, 0, Pictures.none(16));
    }

    private static void wrongPlaces() {
        IntraPicture x = new Bytes().unit(1, 0x80).unit(2, 0x99, 0x44).fed();
        x.decode();
        int[] wrong = {-1, 16, 17, -16, 256, Integer.MIN_VALUE, Integer.MAX_VALUE};
        for (int a : wrong) {
            for (int b : new int[] {0, 1, 15, -1, 16}) {
                outside(x, a, b);
                outside(x, b, a);
            }
        }
        CHECK.due("level(15, 15)", x.level(15, 15) != -1000, true);
        CHECK.due("side(15, 15)", x.side(15, 15) != -1, true);
    }

    private static void outside(IntraPicture x, int a, int b) {
        String at = "(" + a + ", " + b + ")";
        CHECK.due("sample" + at, x.sample(a, b), -1);
        CHECK.due("plain" + at, x.plain(a, b), -1);
        CHECK.due("predicted" + at, x.predicted(a, b), -1);
        CHECK.due("level" + at, x.level(a, b), -1000);
        CHECK.due("mode" + at, x.mode(a, b), -1);
        CHECK.due("side" + at, x.side(a, b), -1);
    }
}

/** Promise 8: the samples when edges have been smoothed and offsets added. */
public final class FinishTest {
    private static final Check CHECK = new Check("FinishTest");

    public static void main(String[] args) {
        anUprightEdge();
        aLyingEdge();
        edgesThatAreTooSteep();
        unevenSidesOfAnEdge();
        aCrossing();
        offsetsByNeighboursAcross();
        offsetsByNeighboursDown();
        offsetsByBand();
        offsetsStayInTheirRange();
        allOffsetsFromWhatWasBefore();
        offsetsComeBehindEdges();
        CHECK.end();
    }

    /** Left half 128, right half that plus the step. With QP 22 a level is its own residual all over a large leaf. */
    private static IntraPicture upright(Bits parameters, int step) {
        PictureWriter picture = Pictures.greyBlock(new PictureWriter(false, false));
        picture.block(false).leaf(1, Pictures.one(8, 0, 0, step));
        picture.block(false).leaf(2, null).block(false).leaf(3, null);
        IntraPicture x = Pictures.decoded(CHECK, "upright", parameters, picture, 7);
        for (int i = 0; i < 256; i++) {
            CHECK.due("plain", x.plain(i % 16, i / 16), i % 16 < 8 ? 128 : 128 + step);
        }
        return x;
    }

    /** Upper half 128, lower half that plus the step. */
    private static IntraPicture lying(Bits parameters, int step) {
        PictureWriter picture = Pictures.greyBlock(new PictureWriter(false, false));
        picture.block(false).leaf(1, null);
        picture.block(false).leaf(1, Pictures.one(8, 0, 0, step)).block(false).leaf(2, null);
        IntraPicture x = Pictures.decoded(CHECK, "lying", parameters, picture, 7);
        for (int i = 0; i < 256; i++) {
            CHECK.due("plain", x.plain(i % 16, i / 16), i < 128 ? 128 : 128 + step);
        }
        return x;
    }

    private static void columnsAre(String name, IntraPicture x, int step, int p0, int q0) {
        for (int i = 0; i < 256; i++) {
            int column = i % 16;
            int due = column == 7 ? p0 : column == 8 ? q0 : column < 8 ? 128 : 128 + step;
            CHECK.due(name + ": sample(" + column + ", " + i / 16 + ")", x.sample(column, i / 16), due);
        }
    }

    private static void rowsAre(String name, IntraPicture x, int step, int p0, int q0) {
        for (int i = 0; i < 256; i++) {
            int row = i / 16;
            int due = row == 7 ? p0 : row == 8 ? q0 : row < 8 ? 128 : 128 + step;
            CHECK.due(name + ": sample(" + i % 16 + ", " + row + ")", x.sample(i % 16, row), due);
        }
    }

    private static void anUprightEdge() {
        columnsAre("no EDGES", upright(Bits.head(22, 0, 0, 0, 0), 6), 6, 128, 134);
        // 9 * 6 - 3 * 6 + 8 is 44, >> 4 is 2; T is 3.
        columnsAre("step 6", upright(Bits.head(22, 0, 0, 1, 0), 6), 6, 130, 132);
        // -36 + 8 is -28, >> 4 is -2.
        columnsAre("step -6", upright(Bits.head(22, 0, 0, 1, 0), -6), -6, 126, 124);
        columnsAre("step 1", upright(Bits.head(22, 0, 0, 1, 0), 1), 1, 128, 129);
        // 6 * 20 + 8 is 128, >> 4 is 8, which is brought to 3.
        columnsAre("step 20", upright(Bits.head(22, 0, 0, 1, 0), 20), 20, 131, 145);
        columnsAre("step -20", upright(Bits.head(22, 0, 0, 1, 0), -20), -20, 125, 111);
    }

    private static void aLyingEdge() {
        rowsAre("no EDGES", lying(Bits.head(22, 0, 0, 0, 0), 6), 6, 128, 134);
        rowsAre("step 6", lying(Bits.head(22, 0, 0, 1, 0), 6), 6, 130, 132);
        rowsAre("step -20", lying(Bits.head(22, 0, 0, 1, 0), -20), -20, 125, 111);
    }

    private static void edgesThatAreTooSteep() {
        // |D| must be below 30: 6 * 78 + 8 >> 4 is 29, 6 * 79 + 8 >> 4 is 30.
        columnsAre("step 78", upright(Bits.head(22, 0, 0, 1, 0), 78), 78, 131, 203);
        columnsAre("step 79", upright(Bits.head(22, 0, 0, 1, 0), 79), 79, 128, 207);
        // -468 + 8 >> 4 is -29, -474 + 8 >> 4 is -30.
        columnsAre("step -78", upright(Bits.head(22, 0, 0, 1, 0), -78), -78, 125, 53);
        columnsAre("step -79", upright(Bits.head(22, 0, 0, 1, 0), -79), -79, 128, 49);
        rowsAre("step 78", lying(Bits.head(22, 0, 0, 1, 0), 78), 78, 131, 203);
        rowsAre("step 79", lying(Bits.head(22, 0, 0, 1, 0), 79), 79, 128, 207);
    }

    /** One row has p1 raised against p0: with QP 10 a skipped residual is twice its level. */
    private static void unevenSidesOfAnEdge() {
        for (int level = -6; level <= 6; level++) {
            PictureWriter picture = new PictureWriter(false, true).block(true).leaf(1, Pictures.none(4));
            picture.leaf(1, true, Pictures.one(4, 2, 1, level)).leaf(1, null).leaf(2, null);
            picture.block(true).leaf(3, true, Pictures.one(4, 1, 2, level)).leaf(3, null).leaf(3, null).leaf(3, null);
            picture.block(false).leaf(2, null).block(false).leaf(2, null);
            IntraPicture x = Pictures.decoded(CHECK, "uneven", Bits.head(10, 0, 1, 1, 0), picture, 10);
            // Only p1 or q1 differs: D is 3 * 2 * level + 8 >> 4 or -3 * 2 * level + 8 >> 4, brought to -2 .. 2.
            boolean smooth = Math.abs(2 * level) < 10;
            int p = smooth ? Math.max(-2, Math.min(2, 6 * level + 8 >> 4)) : 0;
            int q = smooth ? Math.max(-2, Math.min(2, -6 * level + 8 >> 4)) : 0;
            CHECK.due("p1", x.plain(6, 1), 128 + 2 * level);
            CHECK.due("q1", x.plain(9, 2), 128 + 2 * level);
            CHECK.due("level " + level + ": sample(7, 1)", x.sample(7, 1), 128 + p);
            CHECK.due("level " + level + ": sample(8, 1)", x.sample(8, 1), 128 - p);
            CHECK.due("level " + level + ": sample(7, 2)", x.sample(7, 2), 128 + q);
            CHECK.due("level " + level + ": sample(8, 2)", x.sample(8, 2), 128 - q);
            CHECK.due("level " + level + ": sample(6, 1)", x.sample(6, 1), 128 + 2 * level);
        }
    }

    /** Only the last block differs: what the rows made of it is what the columns begin with. */
    private static void aCrossing() {
        PictureWriter picture = Pictures.greyBlock(new PictureWriter(false, false));
        picture.block(false).leaf(1, null).block(false).leaf(1, null).block(false).leaf(1, Pictures.one(8, 0, 0, 20));
        IntraPicture x = Pictures.decoded(CHECK, "crossing", Bits.head(22, 0, 0, 1, 0), picture, 7);
        // Rows 8 .. 15: 131 and 145 at x = 7 and 8. Then column 7: 128, 128, 131, 131: 6 * 3 + 8 >> 4 is 1.
        CHECK.due("sample(7, 7)", x.sample(7, 7), 129);
        CHECK.due("sample(7, 8)", x.sample(7, 8), 130);
        // Column 8: 128, 128, 145, 145: D is 110 >> 4, which is 6, brought to 3.
        CHECK.due("sample(8, 7)", x.sample(8, 7), 131);
        CHECK.due("sample(8, 8)", x.sample(8, 8), 142);
        CHECK.due("sample(9, 7)", x.sample(9, 7), 131);
        CHECK.due("sample(9, 8)", x.sample(9, 8), 145);
        CHECK.due("sample(7, 9)", x.sample(7, 9), 131);
        CHECK.due("sample(8, 9)", x.sample(8, 9), 145);
        CHECK.due("sample(6, 6)", x.sample(6, 6), 128);
        CHECK.due("sample(15, 15)", x.sample(15, 15), 148);
    }

    /** All 128 but for single samples in the second leaf and at the rims. With QP 4 a skipped residual is its level. */
    private static IntraPicture dotted(Bits parameters) {
        PictureWriter picture = new PictureWriter(false, true).block(true);
        picture.leaf(1, true, Pictures.one(4, 0, 0, 10));
        int[][] dots = Pictures.one(4, 1, 1, 20);
        dots[2][3] = -20;
        picture.leaf(5, true, dots).leaf(3, null).leaf(3, null);
        picture.block(false).leaf(5, null).block(false).leaf(3, null).block(false).leaf(2, null);
        IntraPicture x = Pictures.decoded(CHECK, "dotted", parameters, picture, 7);
        CHECK.due("plain(0, 0)", x.plain(0, 0), 138);
        CHECK.due("plain(5, 1)", x.plain(5, 1), 148);
        CHECK.due("plain(7, 2)", x.plain(7, 2), 108);
        return x;
    }

    private static void offsetIs(IntraPicture x, int atX, int atY, int due) {
        CHECK.due("offset at " + atX + ", " + atY, x.sample(atX, atY) - x.plain(atX, atY), due);
    }

    private static void offsetsByNeighboursAcross() {
        IntraPicture x = dotted(Bits.head(4, 0, 1, 0, 1).offsets(1, 2, -3, -4));
        offsetIs(x, 0, 0, 0);
        offsetIs(x, 1, 0, 2);
        offsetIs(x, 4, 1, 2);
        offsetIs(x, 5, 1, -4);
        offsetIs(x, 6, 1, 2);
        offsetIs(x, 5, 0, 0);
        offsetIs(x, 6, 2, -3);
        offsetIs(x, 7, 2, 1);
        offsetIs(x, 8, 2, -3);
        offsetIs(x, 3, 12, 0);
        offsetIs(x, 15, 2, 0);
    }

    private static void offsetsByNeighboursDown() {
        IntraPicture x = dotted(Bits.head(4, 0, 1, 0, 2).offsets(1, 2, -3, -4));
        offsetIs(x, 0, 0, 0);
        offsetIs(x, 0, 1, 2);
        offsetIs(x, 5, 0, 0);
        offsetIs(x, 5, 1, -4);
        offsetIs(x, 5, 2, 2);
        offsetIs(x, 4, 1, 0);
        offsetIs(x, 7, 1, -3);
        offsetIs(x, 7, 2, 1);
        offsetIs(x, 7, 3, -3);
        offsetIs(x, 7, 15, 0);
    }

    private static void offsetsByBand() {
        for (int position = 0; position < 8; position++) {
            IntraPicture x = dotted(Bits.head(4, 0, 1, 0, 3).offsets(1, 2, -3, -4).number(position, 3));
            int[] offsets = {1, 2, -3, -4, 0, 0, 0, 0};
            // 128, 138 and 148 lie in band 4, 108 in band 3.
            for (int[] place : new int[][] {{0, 0}, {5, 1}, {9, 9}, {15, 15}}) {
                offsetIs(x, place[0], place[1], offsets[(4 - position + 8) % 8]);
            }
            offsetIs(x, 7, 2, offsets[(3 - position + 8) % 8]);
        }
    }

    private static void offsetsStayInTheirRange() {
        for (int level : new int[] {127, 124, 120, -128, -125, -121}) {
            PictureWriter picture = new PictureWriter(false, true).block(true);
            picture.leaf(1, true, Pictures.one(4, 0, 0, level)).leaf(3, null).leaf(3, null).leaf(3, null);
            picture.block(false).leaf(2, null).block(false).leaf(2, null).block(false).leaf(2, null);
            int offset = level > 0 ? 7 : -7;
            Bits parameters = Bits.head(4, 0, 1, 0, 3).offsets(offset, offset, offset, offset).number(level > 0 ? 7 : 0, 3);
            IntraPicture x = Pictures.decoded(CHECK, "range", parameters, picture, 7);
            CHECK.due("plain", x.plain(0, 0), 128 + level);
            CHECK.due("sample", x.sample(0, 0), Math.max(0, Math.min(255, 128 + level + offset)));
        }
    }

    private static void allOffsetsFromWhatWasBefore() {
        // A step of 1 upwards, and offsets that would turn it round if they were added one behind the other.
        IntraPicture x = upright(Bits.head(22, 0, 0, 0, 1).offsets(0, 7, -7, 0), 1);
        columnsAre("a step of 1", x, 1, 135, 122);
        x = lying(Bits.head(22, 0, 0, 0, 2).offsets(0, 7, -7, 0), 1);
        rowsAre("a step of 1", x, 1, 135, 122);
    }

    private static void offsetsComeBehindEdges() {
        // 128, 131, 145, 148 at x = 6 .. 9: -1 for none but the ends of the slope.
        IntraPicture x = upright(Bits.head(22, 0, 0, 1, 1).offsets(7, 3, -2, -7), 20);
        CHECK.due("sample(5, 3)", x.sample(5, 3), 128);
        CHECK.due("sample(6, 3)", x.sample(6, 3), 131);
        CHECK.due("sample(7, 3)", x.sample(7, 3), 131);
        CHECK.due("sample(8, 3)", x.sample(8, 3), 145);
        CHECK.due("sample(9, 3)", x.sample(9, 3), 146);
        CHECK.due("sample(10, 3)", x.sample(10, 3), 148);
    }
}

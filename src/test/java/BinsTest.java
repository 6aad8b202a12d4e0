/** Promises 14 and 15: the chances that a picture leaves, and how many bins and bits it takes. */
public final class BinsTest {
    private static final Check CHECK = new Check("BinsTest");

    public static void main(String[] args) {
        noBitsAtAll(0, 0);
        noBitsAtAll(1, 0);
        noBitsAtAll(0, 1);
        noBitsAtAll(1, 1);
        zerosBehindTheEndChangeNothing();
        countsOfAShortPicture();
        contextsOfSplit();
        wrongNumbers();
        CHECK.end();
    }

    private static int risen(int times) {
        int chance = 512;
        for (int i = 0; i < times; i++) {
            chance += 1023 - chance >> 4;
        }
        return chance;
    }

    /** With bits that are all 0, VALUE stays 0: each bin is the likely one, which is 1, and each free bit is 0. */
    private static void noBitsAtAll(int hide, int skips) {
        String name = "hide " + hide + ", skips " + skips;
        IntraPicture x = new Bytes().unit(1, Bits.head(10, hide, skips, 0, 0).toBytes()).unit(2).fed();
        CHECK.due(name + ": decode()", x.decode(), 16);
        for (int i = 0; i < 256; i++) {
            CHECK.due(name + ": level", x.level(i % 16, i / 16), 3);
            CHECK.due(name + ": mode", x.mode(i % 16, i / 16), 1);
            CHECK.due(name + ": side", x.side(i % 16, i / 16), 4);
        }
        int[] used = {1, 2, 1, 16, 16, 0, 16 * skips, 0, 0, 16, 96, 144, 256, 256};
        int bins = 0;
        for (int k = 0; k < 14; k++) {
            CHECK.due(name + ": chance(" + k + ")", x.chance(k), risen(used[k]));
            bins += used[k];
        }
        CHECK.due(name + ": took(0)", x.took(0), bins);
        CHECK.due(name + ": took(1)", x.took(1), 512 - 16 * hide);
        CHECK.due(name + ": took(2) is more than there is", x.took(2) > 500, true);
    }

    private static void zerosBehindTheEndChangeNothing() {
        IntraPicture cut = new Bytes().unit(1, 0x80).unit(2, 0x5A, 0x81).fed();
        IntraPicture longer = new Bytes().unit(1, 0x80).unit(2, 0x5A, 0x81, 0, 0, 0, 0, 0, 0, 0, 0, 0).fed();
        CHECK.due("decode()", cut.decode(), longer.decode());
        for (int k = 0; k < 3; k++) {
            CHECK.due("took(" + k + ")", cut.took(k), longer.took(k));
        }
        for (int i = 0; i < 256; i++) {
            CHECK.due("sample", cut.sample(i % 16, i / 16), longer.sample(i % 16, i / 16));
        }
    }

    private static void countsOfAShortPicture() {
        PictureWriter picture = Pictures.greyBlock(new PictureWriter(false, false));
        picture.block(false).leaf(5, null).block(false).leaf(1, null).block(false).leaf(2, Pictures.one(8, 0, 0, -1));
        IntraPicture x = Pictures.decoded(CHECK, "short", Bits.head(0, 0, 0, 0, 0), picture, 7);
        // Splits; SAME and CODED of seven leaves; 16 of the first leaf; four FILLED, 16 NOTZERO and TWO of the last.
        CHECK.due("took(0)", x.took(0), 4 + 14 + 16 + 4 + 16 + 1);
        // Three for each of two modes, one sign.
        CHECK.due("took(1)", x.took(1), 7);
        CHECK.due("took(2)", x.took(2), picture.took(2));
        for (int k = 0; k < 14; k++) {
            CHECK.due("chance(" + k + ")", x.chance(k), picture.chance(k));
        }
        // SPLIT: 1 with context 0; 0 twice with context 1; 0 with context 0, whose chance was 543.
        CHECK.due("chance(0)", x.chance(0), 543 - (543 >> 4));
        CHECK.due("chance(1)", x.chance(1), 480 - 30);
        CHECK.due("chance(2)", x.chance(2), 512);
        CHECK.due("chance(5): 0, 0, 1", x.chance(5), 450 + (1023 - 450 >> 4));
        CHECK.due("chance(6)", x.chance(6), 512);
        CHECK.due("chance(7)", x.chance(7), 543);
        CHECK.due("chance(8): 0, 0, 0", x.chance(8), 450 - 28);
        CHECK.due("chance(12)", x.chance(12), 480);
        CHECK.due("chance(13)", x.chance(13), 512);
    }

    private static void contextsOfSplit() {
        PictureWriter picture = Pictures.greyBlock(new PictureWriter(false, false));
        picture.block(true).leaf(1, null).leaf(1, null).leaf(1, null).leaf(1, null);
        picture.block(true).leaf(1, null).leaf(1, null).leaf(1, null).leaf(1, null);
        picture.block(false).leaf(1, null);
        IntraPicture x = Pictures.decoded(CHECK, "splits", Bits.head(0, 0, 0, 0, 0), picture, 13);
        CHECK.due("context 0 once", x.chance(0), 543);
        CHECK.due("context 1 twice", x.chance(1), 573);
        CHECK.due("context 2 once", x.chance(2), 480);
    }

    private static void wrongNumbers() {
        IntraPicture x = new Bytes().unit(1, 0x80).unit(2, 1, 2).fed();
        x.decode();
        for (int k : new int[] {-1, -2, 14, 15, 512, Integer.MIN_VALUE, Integer.MAX_VALUE}) {
            CHECK.due("chance(" + k + ")", x.chance(k), -1);
        }
        for (int k : new int[] {-1, -2, 3, 4, 14, Integer.MIN_VALUE, Integer.MAX_VALUE}) {
            CHECK.due("took(" + k + ")", x.took(k), -1);
        }
        CHECK.due("took(0)", x.took(0) > 0, true);
        CHECK.due("took(2)", x.took(2) >= 8, true);
    }
}

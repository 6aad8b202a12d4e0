/** THE ARITHMETIC DECODER and the promises 14 and 15: the chances that a picture leaves, and what it took. */
public final class BinsTest {
    private static final Check CHECK = new Check("BinsTest");
    private static final Bits PLAINEST = Bits.head(0, 0, 0, 0, 0);

    public static void main(String[] args) {
        CHECK.runAll(BinsTest.class);
        CHECK.end();
    }

    private static int risen(int times) {
        int chance = 512;
        for (int i = 0; i < times; i++) {
            chance += 1023 - chance >> 4;
        }
        return chance;
    }

    private static int fallen(int times) {
        int chance = 512;
        for (int i = 0; i < times; i++) {
            chance -= chance >> 4;
        }
        return chance;
    }

    private static Subject decoded(String name, int leaves, int... rest) {
        Subject x = new Bytes().unit(1, PLAINEST.toBytes()).unit(2, rest).fed();
        CHECK.due(name + ": decode()", x.decode(), leaves);
        return x;
    }

    /** The picture as it comes out of its lowest bits and out of its highest ones, with all its chances and counts. */
    private static Subject[] fromLowestAndHighest(String name, PictureWriter picture, int leaves) {
        Subject lowest = decoded(name + ", lowest", leaves, picture.toBytes());
        Pictures.takenAsWritten(CHECK, name + ", lowest", lowest, picture);
        Subject highest = decoded(name + ", highest", leaves, picture.toHighestBytes());
        Pictures.takenAsWritten(CHECK, name + ", highest", highest, picture);
        return new Subject[] {lowest, highest};
    }

    private static PictureWriter splitBlock(PictureWriter picture, int... modes) {
        picture.block(true);
        for (int mode : modes) {
            picture.leaf(mode, null);
        }
        return picture;
    }

    private static PictureWriter firstBlock(int second, int third, int fourth) {
        return new PictureWriter(false, false).block(true).leaf(1, Pictures.none(4)).leaf(second, null).leaf(third, null)
            .leaf(fourth, null);
    }

    /** 48 levels of size 2: they bring the chance of context 12 above 992. */
    private static PictureWriter threeLeavesOfTwos() {
        int[][] twos = Pictures.all(4, 2);
        return new PictureWriter(false, false).block(true).leaf(1, twos).leaf(1, twos).leaf(1, twos);
    }

    /** With bits that are all 0, VALUE stays 0: each bin is the likely one, which is 1, and each free bit is 0. */
    private static void noBitsAtAll(int hide, int skips) {
        String name = "hide " + hide + ", skips " + skips;
        Subject x = new Bytes().unit(1, Bits.head(10, hide, skips, 0, 0).toBytes()).unit(2).fed();
        CHECK.due(name + ": decode()", x.decode(), 16);
        for (int i = 0; i < 256; i++) {
            CHECK.due(name + ": level", x.level(i % 16, i / 16), 3);
            CHECK.due(name + ": mode", x.mode(i % 16, i / 16), 1);
            CHECK.due(name + ": side", x.side(i % 16, i / 16), 4);
        }
        int[] used = {1, 2, 1, 16, 16, 0, 16 * skips, 0, 0, 16, 96, 144, 256, 256};
        int bins = 0;
        for (int k = 0; k < 14; k++) {
            CHECK.due(name + ": chance(" + k + ")", x.chance(k), risen(used[k]));
            bins += used[k];
        }
        CHECK.due(name + ": took(0)", x.took(0), bins);
        CHECK.due(name + ": took(1)", x.took(1), 512 - 16 * hide);
    }

    @Says("THE ARITHMETIC DECODER reads the bits of a picture's rest; bits beyond its end are 0.")
    static void aPictureWithoutARest() {
        for (int i = 0; i < 4; i++) {
            noBitsAtAll(i & 1, i >> 1);
        }
    }

    @Says("THE ARITHMETIC DECODER reads the bits of a picture's rest; bits beyond its end are 0.")
    static void zerosBehindTheEndChangeNothing() {
        int[] rest = {0x5A, 0x81, 0x7E, 0, 0, 0, 0, 0, 0, 0, 0, 0};
        Subject cut = new Bytes().unit(1, 0x80).unit(2, 0x5A, 0x81, 0x7E).fed();
        int leaves = cut.decode();
        CHECK.due("bits beyond the end", cut.took(2) > 24, true);
        for (int length = 4; length <= rest.length; length++) {
            Subject longer = decoded(length + " bytes", leaves, java.util.Arrays.copyOf(rest, length));
            for (int k = 0; k < 3; k++) {
                CHECK.due(length + " bytes: took(" + k + ")", longer.took(k), cut.took(k));
            }
            for (int i = 0; i < 256; i++) {
                CHECK.due(length + " bytes: sample", longer.sample(i % 16, i / 16), cut.sample(i % 16, i / 16));
            }
        }
    }

    @Says("THE ARITHMETIC DECODER reads the bits of a picture's rest; bits beyond its end are 0.")
    static void theBitsOfTheUnitBehindAreNotRead() {
        Subject alone = decoded("alone", 16, 0xE5);
        Subject x = new Bytes().unit(1, 0x80).unit(9, 255, 255, 255, 255).unit(2, 0xE5).unit(9, 255, 255, 255).fed();
        CHECK.due("between others: decode()", x.decode(), 16);
        for (int k = 0; k < 3; k++) {
            CHECK.due("took(" + k + ")", x.took(k), alone.took(k));
        }
        CHECK.due("took(0)", x.took(0), 36);
    }

    @Says("RANGE is 510 at first, VALUE the first eight bits.")
    static void theFirstBins() {
        // RANGE falls by 116 to 394 for SPLIT, by 94 to 300 for SAME and by 71 to 229 for CODED, and VALUE is the first byte.
        for (int first = 0; first < 256; first++) {
            Subject x = new Bytes().unit(1, 0x80).unit(2, first).fed();
            String name = "first byte " + first;
            CHECK.due(name + ": leaves", x.decode() >= 7, true);
            CHECK.due(name + ": side(0, 0)", x.side(0, 0), 4);
            CHECK.due(name + ": mode(0, 0)", x.mode(0, 0), 1);
            if (first == 228) {
                CHECK.due(name + ": the first leaf is coded", x.chance(9) != 512, true);
            }
            if (first == 229) {
                // VALUE is 0 from here on: only the likely bins come, and CODED is not likely any more.
                CHECK.due(name + ": no leaf is coded", x.took(0), 36);
                CHECK.due(name + ": chance(4)", x.chance(4), fallen(16));
                CHECK.due(name + ": chance(9)", x.chance(9), 512);
            }
        }
    }

    @Says("There are 14 CONTEXTS, each with a CHANCE, 512 at first in each picture.")
    static void chancesBeginWith512InEachPicture() {
        Subject unused = decoded("no coded leaf", 16, 229);
        for (int k = 5; k <= 13; k++) {
            CHECK.due("not used: chance(" + k + ")", unused.chance(k), 512);
        }
        Subject two = new Bytes().unit(1, 0x80).unit(2).unit(2, 229).fed();
        CHECK.due("behind another picture: decode()", two.decode(), 16);
        for (int k = 0; k < 14; k++) {
            CHECK.due("behind another picture: chance(" + k + ")", two.chance(k), unused.chance(k));
        }
        for (int k = 0; k < 3; k++) {
            CHECK.due("behind another picture: took(" + k + ")", two.took(k), unused.took(k));
        }
    }

    /** Seven levels, of which the first six bring the chance of context 12 to 511. */
    private static int[][] sizesUpTo(int last) {
        int[] sizes = {1, 2, 1, 2, 2, 1, last};
        int[] places = {0, 4, 1, 8, 5, 2, 12};
        int[][] levels = new int[4][4];
        for (int i = 0; i < sizes.length; i++) {
            levels[places[i] / 4][places[i] % 4] = sizes[i];
        }
        return levels;
    }

    @Says("To decode a BIN with a context of chance P: LIKELY is 1 if P is 512 or more, otherwise 0;")
    static void aChanceOf512And511() {
        CHECK.due("511 falls to 480", 511 - (511 >> 4), 480);
        for (int last = 1; last <= 2; last++) {
            PictureWriter picture = new PictureWriter(false, false).block(true).leaf(1, Pictures.none(4));
            picture.leaf(1, sizesUpTo(last)).leaf(1, null).leaf(1, null);
            Pictures.greyLeaves(picture, 3);
            // 480, 513, 481, 514, 545, 511: then 0 or 1.
            CHECK.due("chance of context 12", picture.chance(12), last == 1 ? 480 : 543);
            for (Subject x : fromLowestAndHighest("size " + last, picture, 7)) {
                CHECK.due("the last size", x.level(4, 3), last);
            }
        }
        // Each context's first bin has the chance 512: with VALUE 0 it is 1.
        Subject x = decoded("no bits", 16);
        CHECK.due("chance(0)", x.chance(0), 543);
        CHECK.due("chance(2)", x.chance(2), 543);
    }

    @Says({"U is (LIKELY = 1 ? 1023 - P : P) >> 5;", "L is ((RANGE >> 5) * U >> 1) + 4.", "RANGE falls by L."})
    static void chancesAtTheirEnds() {
        // 16 empty leaves bring the chance of context 9 to 15, where U is 0 and L is 4: then the unlikely bin comes.
        PictureWriter picture = new PictureWriter(false, false);
        for (int block = 0; block < 4; block++) {
            picture.block(true);
            for (int i = 0; i < 4; i++) {
                picture.leaf(1, block + i == 6 ? Pictures.one(4, 3, 3, 1) : Pictures.none(4));
            }
        }
        for (Subject x : fromLowestAndHighest("an unlikely 1", picture, 16)) {
            CHECK.due("level(15, 15)", x.level(15, 15), 1);
        }
        // 48 levels of size 2 bring the chance of context 12 above 992, where L is 4 too.
        picture = threeLeavesOfTwos();
        picture.leaf(1, Pictures.one(4, 0, 0, -1));
        Pictures.greyLeaves(picture, 3);
        for (Subject x : fromLowestAndHighest("an unlikely 0", picture, 7)) {
            CHECK.due("level(4, 4)", x.level(4, 4), -1);
        }
    }

    @Says("If VALUE is below RANGE, the bin is LIKELY; otherwise VALUE falls by RANGE, RANGE becomes L, and the bin "
        + "is 1 - LIKELY.")
    static void valuesAtTheEndsOfTheRange() {
        // In the lowest bits VALUE is RANGE at the latest unlikely bin.
        // In the highest ones it is RANGE - 1 at the latest likely one.
        for (int split = 0; split < 8; split++) {
            for (int coded = 0; coded < 4; coded++) {
                PictureWriter picture = firstBlock(1, 2, 3);
                int leaves = 4;
                for (int block = 1; block < 4; block++) {
                    boolean isSplit = (split >> block - 1 & 1) == 1;
                    int side = isSplit ? 4 : 8;
                    picture.block(isSplit);
                    for (int i = 0; i < (isSplit ? 4 : 1); i++) {
                        picture.leaf(i, (coded >> (i & 1) & 1) == 1 ? Pictures.one(side, i, 3, 1 + i) : null);
                        leaves++;
                    }
                }
                fromLowestAndHighest("split " + split + ", coded " + coded, picture, leaves);
            }
        }
    }

    @Says("P becomes P + (1023 - P >> 4) if the bin is 1, P - (P >> 4) if it is 0.")
    static void chancesRiseTo1008AndFallTo15() {
        CHECK.due("risen", risen(256), 1008);
        CHECK.due("risen, once more", risen(257), 1008);
        CHECK.due("fallen", fallen(256), 15);
        CHECK.due("fallen, once more", fallen(257), 15);
        Subject x = decoded("all 1", 16);
        CHECK.due("TWO was 1 for 256 times: chance(12)", x.chance(12), 1008);
        CHECK.due("SPLIT was 1 once: chance(0)", x.chance(0), 543);
        CHECK.due("SPLIT was 1 twice: chance(1)", x.chance(1), 573);
        PictureWriter picture = new PictureWriter(false, false);
        for (int block = 0; block < 4; block++) {
            picture.block(true);
            for (int i = 0; i < 4; i++) {
                picture.leaf(1, Pictures.none(4));
            }
        }
        x = fromLowestAndHighest("all 0", picture, 16)[0];
        CHECK.due("NOTZERO was 0 for 256 times: chance(9)", x.chance(9), 15);
        picture = firstBlock(1, 1, 1).block(false).leaf(1, null).block(false).leaf(1, null).block(false).leaf(1, null);
        x = fromLowestAndHighest("large leaves", picture, 7)[0];
        CHECK.due("SPLIT was 1, then 0: chance(0)", x.chance(0), 543 - 33);
        CHECK.due("SPLIT was 0 twice: chance(1)", x.chance(1), 450);
        CHECK.due("CODED was 0 for 3 times: chance(5)", x.chance(5), 422);
    }

    @Says("As long as RANGE is below 256, it is doubled, and VALUE becomes 2 * VALUE + the next bit.")
    static void aRangeOf255Or256Or257() {
        PictureWriter[] pictures = {
            Pictures.greyLeaves(splitBlock(Pictures.greyLeaves(firstBlock(2, 1, 1), 1), 1, 1, 1, 1), 1),
            Pictures.greyLeaves(splitBlock(firstBlock(1, 2, 1).block(false).leaf(2, null), 2, 2, 1, 2), 1),
            splitBlock(firstBlock(1, 2, 1).block(false).leaf(2, null).block(false).leaf(2, null), 2, 1, 1, 2)};
        int[] leaves = {10, 10, 10};
        for (int i = 0; i < 3; i++) {
            CHECK.due("RANGE behind the last bin", pictures[i].rangeBeforeDoubling(), 255 + i);
            fromLowestAndHighest("RANGE " + (255 + i), pictures[i], leaves[i]);
        }
    }

    @Says("As long as RANGE is below 256, it is doubled, and VALUE becomes 2 * VALUE + the next bit.")
    static void aRangeOf4IsDoubledSixTimes() {
        // The last bin is an unlikely TWO, behind which RANGE is 4; one free bit for the sign comes then.
        PictureWriter picture = threeLeavesOfTwos();
        picture.leaf(1, null);
        Pictures.greyLeaves(picture, 2).block(true).leaf(1, null).leaf(1, null).leaf(1, null);
        picture.leaf(1, Pictures.one(4, 3, 3, 1));
        CHECK.due("RANGE behind the last bin", picture.rangeBeforeDoubling(), 4);
        for (Subject x : fromLowestAndHighest("RANGE 4", picture, 10)) {
            CHECK.due("level(15, 15)", x.level(15, 15), 1);
        }
    }

    @Says("A FREE bit: VALUE becomes 2 * VALUE + the next bit; if VALUE is then RANGE or more, it falls by RANGE "
        + "and the free bit is 1; otherwise it is 0.")
    static void freeBitsAtTheEndsOfTheRange() {
        // The sign is the picture's last bit.
        // If it is 1, VALUE is RANGE in the lowest bits; if it is 0, VALUE is RANGE - 1 in the highest ones.
        for (int level : new int[] {-1, 1}) {
            PictureWriter picture = Pictures.greyLeaves(firstBlock(1, 1, 1), 2);
            picture.block(false).leaf(1, Pictures.one(8, 7, 7, level));
            for (Subject x : fromLowestAndHighest("sign", picture, 7)) {
                CHECK.due("level(15, 15)", x.level(15, 15), level);
            }
        }
        for (int mode = 0; mode < 8; mode++) {
            PictureWriter picture = Pictures.greyLeaves(firstBlock(1, 1, 1), 2).block(false).leaf(mode, null);
            for (Subject x : fromLowestAndHighest("mode " + mode, picture, 7)) {
                CHECK.due("mode(15, 15)", x.mode(15, 15), mode);
            }
        }
    }

    @Says("`int chance(int k)`: The chance of context k when the picture was decoded;")
    static void chancesOfAShortPicture() {
        PictureWriter picture = Pictures.greyLeaves(firstBlock(1, 1, 1).block(false).leaf(5, null), 1);
        picture.block(false).leaf(2, Pictures.one(8, 0, 0, -1));
        Subject x = fromLowestAndHighest("short", picture, 7)[0];
        CHECK.due("SPLIT 1, 0: chance(0)", x.chance(0), 543 - (543 >> 4));
        CHECK.due("SPLIT 0, 0: chance(1)", x.chance(1), 480 - 30);
        CHECK.due("chance(2)", x.chance(2), 512);
        CHECK.due("CODED 0, 0, 1: chance(5)", x.chance(5), 450 + (1023 - 450 >> 4));
        CHECK.due("chance(6)", x.chance(6), 512);
        CHECK.due("FILLED 1: chance(7)", x.chance(7), 543);
        CHECK.due("FILLED 0, 0, 0: chance(8)", x.chance(8), 450 - 28);
        CHECK.due("TWO 0: chance(12)", x.chance(12), 480);
        CHECK.due("chance(13)", x.chance(13), 512);
        // What is fed or asked later leaves it.
        x.feed(0x8001010000L, 5);
        x.payload(1, 0);
        CHECK.due("later: chance(5)", x.chance(5), 450 + (1023 - 450 >> 4));
    }

    @Says("`int took(int k)`: What the picture took: k = 0 bins, 1 free bits, 2 bits read (those beyond the end too).")
    static void countsOfAShortPicture() {
        PictureWriter picture = Pictures.greyLeaves(firstBlock(1, 1, 1).block(false).leaf(5, null), 1);
        picture.block(false).leaf(2, Pictures.one(8, 0, 0, -1));
        Subject x = decoded("short", 7, picture.toBytes());
        // Splits; SAME and CODED of seven leaves; 16 of the first leaf; four FILLED, 16 NOTZERO and TWO of the last.
        CHECK.due("took(0)", x.took(0), 4 + 14 + 16 + 4 + 16 + 1);
        // Three for each of two modes, one sign.
        CHECK.due("took(1)", x.took(1), 7);
        CHECK.due("took(2)", x.took(2), picture.took(2));
    }

    @Says("`int took(int k)`: What the picture took: k = 0 bins, 1 free bits, 2 bits read (those beyond the end too).")
    static void bitsBeyondTheEndAreCounted() {
        PictureWriter picture = new PictureWriter(false, false);
        for (int block = 0; block < 4; block++) {
            picture.block(true);
            for (int i = 0; i < 4; i++) {
                picture.leaf(1, Pictures.all(4, 3));
            }
        }
        CHECK.due("all its bits are 0", picture.toBytes().length, 0);
        Subject x = decoded("no rest", 16);
        CHECK.due("no rest: took(0)", x.took(0), 4 + 32 + 256 * 3);
        CHECK.due("no rest: took(1)", x.took(1), 512);
        CHECK.due("no rest: took(2)", x.took(2), picture.took(2));
        // The first leaf is not coded: VALUE is 0 behind it, and all other bits are too.
        picture = new PictureWriter(false, false);
        for (int block = 0; block < 4; block++) {
            splitBlock(picture, 1, 1, 1, 1);
        }
        CHECK.due("one byte", picture.toBytes().length, 1);
        CHECK.due("it is 229", picture.toBytes()[0], 229);
        Pictures.takenAsWritten(CHECK, "one byte", decoded("one byte", 16, 229), picture);
        CHECK.due("more than 8 bits", picture.took(2) > 8, true);
    }
}

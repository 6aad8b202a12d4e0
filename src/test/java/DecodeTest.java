/** Promise 6: decode() goes through all units in order, and says how many leaves there are or what the fault is. */
public final class DecodeTest {
    private static final Check CHECK = new Check("DecodeTest");
    private static final int[] PLAINEST = {0x80};

    public static void main(String[] args) {
        otherKindsArePassedOver();
        aPictureNeedsParametersBeforeIt();
        noPictureAfterAFault();
        theLatestPictureStands();
        aPictureKeepsTheParametersBeforeIt();
        feedLeavesThePicture();
        leavesAreCounted();
        decodingTwiceIsTheSame();
        threesAreLeftOutOfTheBits();
        CHECK.end();
    }

    private static void hasPicture(String name, IntraPicture x, boolean due) {
        CHECK.due(name + ": sample", x.sample(0, 0) >= 0, due);
        CHECK.due(name + ": plain", x.plain(15, 0) >= 0, due);
        CHECK.due(name + ": predicted", x.predicted(0, 15) >= 0, due);
        CHECK.due(name + ": level", x.level(3, 3) != -1000, due);
        CHECK.due(name + ": mode", x.mode(4, 4) >= 0, due);
        CHECK.due(name + ": side", x.side(5, 5) >= 0, due);
        CHECK.due(name + ": chance", x.chance(0) >= 0, due);
        CHECK.due(name + ": took", x.took(0) >= 0, due);
    }

    private static void otherKindsArePassedOver() {
        Bytes bytes = new Bytes();
        for (int kind : new int[] {0, 3, 4, 5, 127, 128, 129, 130, 254, 255}) {
            bytes.unit(kind, 0x80, 0x01);
        }
        bytes.raw(0, 0, 1);
        IntraPicture x = bytes.fed();
        CHECK.due("other kinds", x.decode(), -1);
        CHECK.due("no parameters", x.parameter(0), -100);
        x = Bytes.of(1, 0x80, 2, 2).fed();
        CHECK.due("bytes without a start", x.decode(), -1);
        CHECK.due("no parameters either", x.parameter(0), -100);
        x = new Bytes().raw(7, 7).unit(9, 1).unit(1, PLAINEST).raw(0, 0, 1).unit(200, 2).unit(2).unit(0, 1).fed();
        CHECK.due("between others", x.decode(), 16);
    }

    private static void aPictureNeedsParametersBeforeIt() {
        IntraPicture x = new Bytes().unit(2, 1, 2, 3).unit(1, PLAINEST).unit(2, 1).fed();
        CHECK.due("picture first", x.decode(), -2);
        hasPicture("picture first", x, false);
        CHECK.due("the parameters behind were not reached", x.parameter(0), -100);
        x = new Bytes().unit(1).unit(2).fed();
        CHECK.due("parameters with a fault first", x.decode(), -4);
        x = new Bytes().unit(2).unit(1).fed();
        CHECK.due("picture, then a fault", x.decode(), -2);
    }

    private static void noPictureAfterAFault() {
        IntraPicture x = new Bytes().unit(1, PLAINEST).unit(2, 9, 8, 7).fed();
        CHECK.due("good", x.decode() > 0, true);
        hasPicture("good", x, true);
        new Bytes().unit(1, 0x01).feedTo(x);
        hasPicture("not decoded again", x, true);
        CHECK.due("a fault behind the picture", x.decode(), -3);
        hasPicture("a fault behind the picture", x, false);
        CHECK.due("the parameters stay", x.parameter(0), 0);
        new Bytes().unit(1, PLAINEST).unit(2, 9).feedTo(x);
        CHECK.due("the fault ends it", x.decode(), -3);
        hasPicture("the fault ends it", x, false);
    }

    private static void theLatestPictureStands() {
        IntraPicture first = new Bytes().unit(1, PLAINEST).unit(2, 0x33, 0x44, 0x55, 0x66).fed();
        IntraPicture second = new Bytes().unit(1, PLAINEST).unit(2, 0xAA, 0x17, 0x99, 0x20).fed();
        IntraPicture both = new Bytes().unit(1, PLAINEST).unit(2, 0x33, 0x44, 0x55, 0x66)
            .unit(2, 0xAA, 0x17, 0x99, 0x20).unit(9, 0x33).fed();
        int firstLeaves = first.decode();
        int leaves = second.decode();
        CHECK.due("they differ", first.took(2) != second.took(2) || firstLeaves != leaves, true);
        CHECK.due("leaves of the second", both.decode(), leaves);
        for (int k = 0; k < 3; k++) {
            CHECK.due("took " + k, both.took(k), second.took(k));
        }
        for (int k = 0; k < 14; k++) {
            CHECK.due("chance " + k, both.chance(k), second.chance(k));
        }
        for (int i = 0; i < 256; i++) {
            CHECK.due("sample " + i, both.sample(i % 16, i / 16), second.sample(i % 16, i / 16));
            CHECK.due("level " + i, both.level(i % 16, i / 16), second.level(i % 16, i / 16));
            CHECK.due("mode " + i, both.mode(i % 16, i / 16), second.mode(i % 16, i / 16));
            CHECK.due("side " + i, both.side(i % 16, i / 16), second.side(i % 16, i / 16));
        }
    }

    private static void aPictureKeepsTheParametersBeforeIt() {
        int[] before = Bits.head(30, 1, 1, 1, 1).offsets(-7, 7, 7, -7).toBytes();
        int[] behind = Bits.head(3, 0, 0, 0, 2).offsets(1, 1, 1, 1).toBytes();
        int[] picture = {0x12, 0x91, 0xFA, 0xCE, 0x08};
        IntraPicture alone = new Bytes().unit(1, before).unit(2, picture).fed();
        IntraPicture x = new Bytes().unit(1, before).unit(2, picture).unit(1, behind).fed();
        CHECK.due("decode()", x.decode(), alone.decode());
        CHECK.due("the parameters behind", x.parameter(0), 3);
        CHECK.due("the parameters before", alone.parameter(0), 30);
        for (int i = 0; i < 256; i++) {
            CHECK.due("sample " + i, x.sample(i % 16, i / 16), alone.sample(i % 16, i / 16));
            CHECK.due("plain " + i, x.plain(i % 16, i / 16), alone.plain(i % 16, i / 16));
        }
        CHECK.due("took(2)", x.took(2), alone.took(2));
    }

    private static void feedLeavesThePicture() {
        IntraPicture x = new Bytes().unit(1, PLAINEST).unit(2, 0xAA, 0x17, 0x99, 0x20).fed();
        int leaves = x.decode();
        int sample = x.sample(5, 5);
        int took = x.took(2);
        new Bytes().unit(2, 1, 2, 3, 4, 5, 6, 7).feedTo(x);
        CHECK.due("sample", x.sample(5, 5), sample);
        CHECK.due("took", x.took(2), took);
        CHECK.due("leaves", leaves >= 4 && leaves <= 16, true);
    }

    private static void leavesAreCounted() {
        for (int split = 0; split < 8; split++) {
            PictureWriter picture = Pictures.greyBlock(new PictureWriter(false, false));
            int leaves = 4;
            for (int block = 1; block < 4; block++) {
                boolean isSplit = (split >> block - 1 & 1) == 1;
                picture.block(isSplit);
                for (int i = 0; i < (isSplit ? 4 : 1); i++) {
                    picture.leaf(1, null);
                    leaves++;
                }
            }
            Pictures.decoded(CHECK, "split " + split, Bits.head(0, 0, 0, 0, 0), picture, leaves);
        }
    }

    private static void decodingTwiceIsTheSame() {
        IntraPicture x = new Bytes().unit(1, Bits.head(40, 1, 1, 1, 2).offsets(1, 2, -3, 4).toBytes())
            .unit(2, 0x77, 0x01, 0xFE, 0x40, 0x22).fed();
        int leaves = x.decode();
        long sum = sumOfSamples(x);
        for (int i = 0; i < 5; i++) {
            CHECK.due("again", x.decode(), leaves);
            CHECK.due("the same samples", sumOfSamples(x), sum);
        }
    }

    private static long sumOfSamples(IntraPicture x) {
        long sum = 0;
        for (int i = 0; i < 256; i++) {
            sum = 31 * sum + x.sample(i % 16, i / 16);
        }
        return sum;
    }

    private static void threesAreLeftOutOfTheBits() {
        IntraPicture with = new Bytes().unit(1, PLAINEST).raw(0, 0, 1, 2, 0x40, 0, 0, 3, 1, 0x99).fed();
        IntraPicture without = new Bytes().unit(1, PLAINEST).raw(0, 0, 1, 2, 0x40, 0, 0, 1).fed();
        CHECK.due("without the 3 there is another unit", without.units(), 3);
        CHECK.due("with it there is none", with.units(), 2);
        CHECK.due("payload", with.payload(1, 4), 1);
        IntraPicture split = new Bytes().unit(1, PLAINEST).unit(2, 0x40, 0, 0, 1, 0x99).fed();
        CHECK.due("decode()", with.decode(), split.decode());
        CHECK.due("took(2)", with.took(2), split.took(2));
    }
}

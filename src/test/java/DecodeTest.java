/** DECODING and promise 6: decode() goes through all units in order, and says how many leaves there are or what the fault is. */
public final class DecodeTest {
    private static final Check CHECK = new Check("DecodeTest");
    private static final int[] PLAINEST = {0x80};
    private static final int[] SEVEN_ZEROS = {0x01};

    public static void main(String[] args) {
        CHECK.runAll(DecodeTest.class);
        CHECK.end();
    }

    private static Subject decoded(String name, Bytes bytes, int due) {
        Subject x = bytes.fed();
        CHECK.due(name + ": decode()", x.decode(), due);
        return x;
    }

    private static void hasPicture(String name, Subject x, boolean due) {
        CHECK.due(name + ": sample", x.sample(0, 0) >= 0, due);
        CHECK.due(name + ": plain", x.plain(15, 0) >= 0, due);
        CHECK.due(name + ": predicted", x.predicted(0, 15) >= 0, due);
        CHECK.due(name + ": level", x.level(3, 3) != -1000, due);
        CHECK.due(name + ": mode", x.mode(4, 4) >= 0, due);
        CHECK.due(name + ": side", x.side(5, 5) >= 0, due);
        CHECK.due(name + ": chance", x.chance(0) >= 0, due);
        CHECK.due(name + ": took", x.took(0) >= 0, due);
    }

    private static void samePicture(String name, Subject x, Subject due) {
        for (int k = 0; k < 3; k++) {
            CHECK.due(name + ": took(" + k + ")", x.took(k), due.took(k));
        }
        for (int k = 0; k < 14; k++) {
            CHECK.due(name + ": chance(" + k + ")", x.chance(k), due.chance(k));
        }
        for (int i = 0; i < 256; i++) {
            String at = "(" + i % 16 + ", " + i / 16 + ")";
            CHECK.due(name + ": sample" + at, x.sample(i % 16, i / 16), due.sample(i % 16, i / 16));
            CHECK.due(name + ": plain" + at, x.plain(i % 16, i / 16), due.plain(i % 16, i / 16));
            CHECK.due(name + ": level" + at, x.level(i % 16, i / 16), due.level(i % 16, i / 16));
            CHECK.due(name + ": mode" + at, x.mode(i % 16, i / 16), due.mode(i % 16, i / 16));
            CHECK.due(name + ": side" + at, x.side(i % 16, i / 16), due.side(i % 16, i / 16));
        }
    }

    @Says("Its KIND is the first byte of the payload (-1 if it has none),")
    static void aUnitWithoutBytesHasNoKind() {
        decoded("alone", new Bytes().raw(0, 0, 1), -1);
        decoded("many", new Bytes().raw(0, 0, 1, 0, 0, 1, 0, 0, 1), -1);
        decoded("behind parameters", new Bytes().unit(1, PLAINEST).raw(0, 0, 1), -1);
        decoded("before parameters", new Bytes().raw(0, 0, 1).unit(1, PLAINEST), -1);
        Subject x = decoded("behind a picture", new Bytes().unit(1, PLAINEST).unit(2, 0xE5).raw(0, 0, 1), 16);
        CHECK.due("the picture before it stands: took(0)", x.took(0), 36);
        // The kind is no part of the rest, and no byte but the first is the kind.
        decoded("a rest of seven zeros", new Bytes().unit(1, 1, 0x80), -3);
        decoded("a rest like a picture", new Bytes().unit(9, 2).unit(0, 1), -1);
    }

    @Says("kind 1 are PARAMETERS, kind 2 is a PICTURE, all others are passed over.")
    static void otherKindsArePassedOver() {
        for (int kind = 0; kind < 256; kind++) {
            int due = kind == 1 ? -3 : kind == 2 ? -2 : -1;
            Subject x = decoded("kind " + kind + " alone", new Bytes().unit(kind, SEVEN_ZEROS), due);
            CHECK.due("kind " + kind + ": parameter(0)", x.parameter(0), -100);
            Bytes bytes = new Bytes().unit(1, PLAINEST).unit(2, 0xE5).unit(kind, Bits.head(5, 0, 0, 0, 0).toBytes());
            x = decoded("kind " + kind + " behind a picture", bytes, 16);
            CHECK.due("kind " + kind + " behind a picture: parameter(0)", x.parameter(0), kind == 1 ? 5 : 0);
            CHECK.due("kind " + kind + " behind a picture: took(0)", x.took(0) == 36, kind != 2);
        }
        decoded("between others", new Bytes().raw(7, 7).unit(9, 1).unit(1, PLAINEST).raw(0, 0, 1).unit(200, 2).unit(2)
            .unit(0, 1), 16);
    }

    @Says("DECODING goes through the units in order, with no parameters and no picture at first:")
    static void decodeBeginsWithoutParameters() {
        // The last bits of the parameters lie in a byte 0, and one more such byte is behind: with a 1 they are a start.
        Bits bits = Bits.head(0, 0, 0, 0, 3).offsets(1, 1, 0, 2).number(0, 3);
        CHECK.due("21 bits", bits.count(), 21);
        Subject x = new Bytes().raw(0, 0, 1, 1).raw(bits.toBytes()).raw(0).fed();
        CHECK.due("whole: decode()", x.decode(), -1);
        CHECK.due("whole: parameter(4)", x.parameter(4), 3);
        CHECK.due("feed(1, 1)", x.feed(1, 1), true);
        CHECK.due("cut: units()", x.units(), 2);
        CHECK.due("cut: decode()", x.decode(), -4);
        CHECK.due("cut: parameter(4)", x.parameter(4), -100);
    }

    @Says("DECODING goes through the units in order, with no parameters and no picture at first:")
    static void decodeBeginsWithoutAPicture() {
        Subject x = decoded("good", new Bytes().unit(1, PLAINEST).unit(2, 0xE5), 16);
        x.clear();
        CHECK.due("feed", new Bytes().unit(1, PLAINEST).feedTo(x), true);
        CHECK.due("decode() without a picture", x.decode(), -1);
        hasPicture("cleared", x, false);
        x.clear();
        CHECK.due("feed", new Bytes().unit(2, 0xE5).feedTo(x), true);
        CHECK.due("decode() without parameters", x.decode(), -2);
        hasPicture("cleared again", x, false);
    }

    @Says("DECODING goes through the units in order, with no parameters and no picture at first:")
    static void unitsAreTakenInOrder() {
        int[] before = Bits.head(30, 1, 1, 1, 1).offsets(-7, 7, 7, -7).toBytes();
        int[] behind = Bits.head(3, 0, 0, 0, 2).offsets(1, 1, 1, 1).toBytes();
        int[] picture = {0x12, 0x91, 0xFA, 0xCE, 0x08};
        Subject alone = new Bytes().unit(1, before).unit(2, picture).fed();
        int leaves = alone.decode();
        CHECK.due("leaves", leaves > 0, true);
        // A picture is made with the parameters before it; those behind it leave it alone.
        Subject x = decoded("parameters behind", new Bytes().unit(1, before).unit(2, picture).unit(1, behind), leaves);
        CHECK.due("the parameters behind", x.parameter(0), 3);
        samePicture("parameters behind", x, alone);
        x = decoded("two before", new Bytes().unit(1, behind).unit(1, before).unit(2, picture), leaves);
        CHECK.due("the later of the two", x.parameter(0), 30);
        samePicture("two before", x, alone);
    }

    @Says("The first fault ends it:")
    static void theFirstFaultOfAllUnitsCounts() {
        int[][] faults = {{2}, {1, 0x01}, {1}};
        int[] numbers = {-2, -3, -4};
        for (int first = 0; first < 3; first++) {
            for (int next = 0; next < 3; next++) {
                String name = "fault " + numbers[first] + ", then " + numbers[next];
                Bytes bytes = new Bytes().raw(0, 0, 1).raw(faults[first]).raw(0, 0, 1).raw(faults[next]);
                Subject x = decoded(name, bytes.unit(1, PLAINEST).unit(2, 0xE5), numbers[first]);
                CHECK.due(name + ": nothing behind is read", x.parameter(0), -100);
                hasPicture(name, x, false);
            }
        }
    }

    @Says("-2 for a picture before any parameters.")
    static void aPictureNeedsParametersBeforeIt() {
        Subject x = decoded("picture first", new Bytes().unit(2, 1, 2, 3).unit(1, PLAINEST).unit(2, 1), -2);
        hasPicture("picture first", x, false);
        CHECK.due("the parameters behind were not reached", x.parameter(0), -100);
        decoded("an empty picture", new Bytes().unit(2), -2);
        decoded("behind other kinds", new Bytes().unit(0, PLAINEST).unit(3, PLAINEST).raw(0, 0, 1).unit(2), -2);
        decoded("behind parameters", new Bytes().unit(1, PLAINEST).unit(2), 16);
        decoded("two behind the same parameters", new Bytes().unit(1, PLAINEST).unit(2).unit(9).unit(2), 16);
    }

    @Says("If there is no fault, it is -1 if there was no picture;")
    static void noPicture() {
        hasPicture("no bytes", decoded("no bytes", new Bytes(), -1), false);
        hasPicture("no start", decoded("no start", Bytes.of(1, 0x80, 2, 2), -1), false);
        Subject x = decoded("parameters alone", new Bytes().unit(1, PLAINEST), -1);
        hasPicture("parameters alone", x, false);
        CHECK.due("parameters alone: parameter(0)", x.parameter(0), 0);
        decoded("parameters with a fault alone", new Bytes().unit(1), -4);
    }

    @Says("otherwise the latest picture stands.")
    static void theLatestPictureStands() {
        int[] one = {0x33, 0x44, 0x55, 0x66};
        int[] other = {0xAA, 0x17, 0x99, 0x20};
        Subject first = new Bytes().unit(1, PLAINEST).unit(2, one).fed();
        Subject second = new Bytes().unit(1, PLAINEST).unit(2, other).fed();
        int firstLeaves = first.decode();
        int secondLeaves = second.decode();
        CHECK.due("they differ", first.took(2) != second.took(2), true);
        Bytes both = new Bytes().unit(1, PLAINEST).unit(2, one).unit(2, other).unit(9, 0x33);
        samePicture("the second", decoded("one, other", both, secondLeaves), second);
        both = new Bytes().unit(1, PLAINEST).unit(2, other).unit(2, one).unit(9, 0x33);
        samePicture("the first", decoded("other, one", both, firstLeaves), first);
    }

    @Says("After a fault there is no picture;")
    static void noPictureAfterAFault() {
        int[][] faults = {{1, 0x01}, {1}};
        for (int[] fault : faults) {
            Subject x = decoded("good", new Bytes().unit(1, PLAINEST).unit(2, 0xE5), 16);
            hasPicture("good", x, true);
            int due = fault.length == 1 ? -4 : -3;
            CHECK.due("feed", new Bytes().raw(0, 0, 1).raw(fault).feedTo(x), true);
            hasPicture("not decoded again", x, true);
            CHECK.due("a fault behind the picture", x.decode(), due);
            hasPicture("a fault behind the picture", x, false);
            CHECK.due("feed", new Bytes().unit(1, PLAINEST).unit(2, 9).feedTo(x), true);
            CHECK.due("the fault ends it", x.decode(), due);
            hasPicture("the fault ends it", x, false);
        }
        hasPicture("fault -2", decoded("fault -2", new Bytes().unit(2, 0xE5), -2), false);
    }

    private static void parametersAre(String name, Subject x, int... due) {
        for (int k = 0; k < 10; k++) {
            CHECK.due(name + ": parameter(" + k + ")", x.parameter(k), due.length == 0 ? -100 : due[k]);
        }
    }

    @Says("the parameters are those of the latest unit that had no fault.")
    static void aFaultLeavesTheParametersBefore() {
        int[] good = Bits.head(7, 1, 0, 1, 2).offsets(1, 2, 3, 4).toBytes();
        int[] wrong = Bits.head(9, 0, 1, 0, 3).offsets(5, 6, 8, 0).number(0, 3).toBytes();
        int[] cut = java.util.Arrays.copyOf(Bits.head(9, 0, 1, 0, 3).offsets(5, 6, 7, 0).number(0, 3).toBytes(), 4);
        Subject x = decoded("-3 in the second", new Bytes().unit(1, good).unit(1, wrong).unit(1, PLAINEST), -3);
        parametersAre("those of the first", x, 7, 1, 0, 1, 2, 1, 2, 3, 4, 0);
        x = decoded("-4 in the second", new Bytes().unit(1, good).unit(1, cut).unit(1, PLAINEST), -4);
        parametersAre("those of the first", x, 7, 1, 0, 1, 2, 1, 2, 3, 4, 0);
        x = decoded("-4 in the third", new Bytes().unit(1, good).unit(1, PLAINEST).unit(1), -4);
        parametersAre("those of the second", x, 0, 0, 0, 0, 0, 0, 0, 0, 0, 0);
        parametersAre("none", decoded("-3 in the first", new Bytes().unit(1, wrong).unit(1, good), -3));
        parametersAre("none", decoded("-4 in the first", new Bytes().unit(1, cut).unit(1, good), -4));
        parametersAre("none", decoded("-2", new Bytes().unit(2).unit(1, good), -2));
    }

    @Says("`int decode()`: Decodes all units as the bytes are now: how many leaves the picture has, or the fault.")
    static void leavesAreCounted() {
        for (int split = 0; split < 8; split++) {
            PictureWriter picture = Pictures.greyBlock(new PictureWriter(false, false));
            int leaves = 4;
            for (int block = 1; block < 4; block++) {
                boolean isSplit = (split >> block - 1 & 1) == 1;
                picture.block(isSplit);
                for (int i = 0; i < (isSplit ? 4 : 1); i++) {
                    picture.leaf(1, null);
                    leaves++;
                }
            }
            Pictures.decoded(CHECK, "split " + split, Bits.head(0, 0, 0, 0, 0), picture, leaves);
        }
    }

    @Says("`int decode()`: Decodes all units as the bytes are now: how many leaves the picture has, or the fault.")
    static void decodingAgainSeesTheBytesAsTheyAreNow() {
        Subject x = new Bytes().unit(1, 0b01000001).fed();
        CHECK.due("offsets are not there yet", x.decode(), -4);
        CHECK.due("feed", x.feed(0b11110000, 1), true);
        CHECK.due("now they are", x.decode(), -1);
        parametersAre("now", x, 1, 0, 0, 0, 1, 0, 0, 0, 0, 0);
        CHECK.due("feed", x.feed(0x02010000, 4), true);
        CHECK.due("a picture too", x.decode(), 16);
        int took = x.took(0);
        CHECK.due("the same again", x.decode(), 16);
        CHECK.due("took(0)", x.took(0), took);
        CHECK.due("feed", x.feed(0xE5, 1), true);
        CHECK.due("another picture", x.decode(), 16);
        CHECK.due("took(0) of the other", x.took(0), 36);
        for (int fault : new int[] {0x01, 0x20}) {
            x.clear();
            new Bytes().unit(1, fault).feedTo(x);
            CHECK.due("a fault", x.decode(), fault == 0x01 ? -3 : -4);
            x.clear();
            new Bytes().unit(1, PLAINEST).feedTo(x);
            CHECK.due("no fault any more", x.decode(), -1);
            parametersAre("no fault any more", x, 0, 0, 0, 0, 0, 0, 0, 0, 0, 0);
        }
    }

    @Says("if the count is 2 or more and the byte is 3, it is left out and the count is 0 again;")
    static void threesAreLeftOutOfTheBits() {
        Subject with = new Bytes().unit(1, PLAINEST).raw(0, 0, 1, 2, 0x40, 0, 0, 3, 0x99, 0x77).fed();
        Subject without = new Bytes().unit(1, PLAINEST).raw(0, 0, 1, 2, 0x40, 0, 0, 0x99, 0x77).fed();
        CHECK.due("decode()", with.decode(), without.decode());
        CHECK.due("the bits behind it are read", with.took(2) > 40, true);
        samePicture("with a 3", with, without);
    }
}

import java.util.Arrays;

/** Promises 6 and 7: how parameters are read, and what their faults are. */
public final class ParametersTest {
    private static final Check CHECK = new Check("ParametersTest");

    public static void main(String[] args) {
        eachQp();
        eachBit();
        offsetsAndPosition();
        whatStandsBehindDoesNotCount();
        outOfRange();
        outOfBits();
        theFirstFaultCounts();
        wrongNumbers();
        aFaultLeavesTheParametersBefore();
        decodeBeginsWithoutParameters();
        aStartMayCutParameters();
        aFaultIsGoneWithItsCause();
        CHECK.end();
    }

    private static IntraPicture read(String name, int due, int... rest) {
        IntraPicture x = new Bytes().unit(1, rest).fed();
        CHECK.due(name + ": decode()", x.decode(), due);
        return x;
    }

    private static void parametersAre(String name, IntraPicture x, int... due) {
        for (int k = 0; k < 10; k++) {
            CHECK.due(name + ": parameter(" + k + ")", x.parameter(k), due.length == 0 ? -100 : due[k]);
        }
    }

    private static void eachQp() {
        for (int qp = 0; qp <= 51; qp++) {
            IntraPicture x = read("QP " + qp, -1, Bits.head(qp, 0, 0, 0, 0).toBytes());
            parametersAre("QP " + qp, x, qp, 0, 0, 0, 0, 0, 0, 0, 0, 0);
        }
        parametersAre("11 bits for QP 51", read("QP 51 by hand", -1, 0b00000110, 0b10000100), 51, 0, 0, 1, 0, 0, 0, 0, 0, 0);
    }

    private static void eachBit() {
        for (int bits = 0; bits < 8; bits++) {
            Bits head = Bits.head(30, bits & 1, bits >> 1 & 1, bits >> 2, 0);
            IntraPicture x = read("bits " + bits, -1, head.toBytes());
            parametersAre("bits " + bits, x, 30, bits & 1, bits >> 1 & 1, bits >> 2, 0, 0, 0, 0, 0, 0);
        }
    }

    private static void offsetsAndPosition() {
        for (int c = 1; c <= 2; c++) {
            Bits bits = Bits.head(1, 0, 1, 0, c).offsets(-7, -1, 0, 7).number(7, 3);
            parametersAre("CLASS " + c, read("CLASS " + c, -1, bits.toBytes()), 1, 0, 1, 0, c, -7, -1, 0, 7, 0);
        }
        for (int position = 0; position < 8; position++) {
            Bits bits = Bits.head(2, 1, 0, 0, 3).offsets(1, 2, -3, -4).number(position, 3);
            parametersAre("POSITION", read("POSITION", -1, bits.toBytes()), 2, 1, 0, 0, 3, 1, 2, -3, -4, position);
        }
        for (int offset = -7; offset <= 7; offset++) {
            Bits bits = Bits.head(0, 0, 0, 0, 1).offsets(offset, 0, -offset, offset);
            parametersAre("offset", read("offset", -1, bits.toBytes()), 0, 0, 0, 0, 1, offset, 0, -offset, offset, 0);
        }
        // 1, 000, 11, then 1 (0), 010 (1), 011 (-1), 00100 (2), then 110.
        parametersAre("by hand", read("by hand", -1, 0b10001110, 0b10011001, 0b00110000), 0, 0, 0, 0, 3, 0, 1, -1, 2, 6);
    }

    private static void whatStandsBehindDoesNotCount() {
        int[] rest = Arrays.copyOf(Bits.head(0, 0, 0, 0, 0).toBytes(1), 20);
        parametersAre("filler", read("filler", -1, rest), 0, 0, 0, 0, 0, 0, 0, 0, 0, 0);
    }

    private static void outOfRange() {
        for (int qp : new int[] {52, 53, 62, 63, 100, 126}) {
            parametersAre("QP " + qp, read("QP " + qp, -3, Bits.head(qp, 0, 0, 0, 0).toBytes()));
        }
        read("seven zeros", -3, 1, 255, 255);
        read("eight zeros", -3, 0, 255, 255, 255);
        for (int offset : new int[] {-8, 8, -63, 63}) {
            for (int k = 0; k < 4; k++) {
                int[] offsets = new int[4];
                offsets[k] = offset;
                for (int c = 1; c <= 3; c++) {
                    parametersAre("offset", read("offset " + k + " is " + offset, -3,
                        Bits.head(9, 0, 0, 0, c).offsets(offsets).number(0, 11).toBytes()));
                }
            }
        }
    }

    private static void outOfBits() {
        read("no rest", -4);
        read("exactly eight bits", -1, Bits.head(1, 1, 1, 1, 0).toBytes());
        read("ten bits, eight there", -4, Bits.head(3, 1, 1, 1, 0).toBytes()[0]);
        Bits full = Bits.head(15, 0, 0, 0, 3).offsets(7, 7, 7, 7).number(5, 3);
        int[] rest = full.toBytes();
        read("all of " + full.count(), -1, rest);
        for (int length = 0; length < rest.length; length++) {
            parametersAre("cut", read(length + " bytes of " + rest.length, -4, Arrays.copyOf(rest, length)));
        }
        Bits sharp = Bits.head(1, 0, 0, 0, 3).offsets(0, 0, 0, 0).number(3, 3);
        CHECK.due("15 bits", sharp.count(), 15);
        read("15 bits", -1, sharp.toBytes());
        Bits seventeen = Bits.head(1, 0, 0, 0, 3).offsets(0, 0, 0, 1).number(3, 3);
        CHECK.due("17 bits", seventeen.count(), 17);
        read("16 of 17 bits", -4, Arrays.copyOf(seventeen.toBytes(), 2));
        Bits sixteen = Bits.head(0, 0, 0, 0, 2).offsets(-3, 1, 0, 0);
        CHECK.due("16 bits for CLASS 2", sixteen.count(), 16);
        read("CLASS 2 has no POSITION", -1, sixteen.toBytes());
    }

    private static void theFirstFaultCounts() {
        read("QP 52, then no offsets", -3, Bits.head(52, 0, 0, 0, 1).toBytes());
        read("QP 52 cut before CLASS", -3, 0b00000110, 0b10100000);
        read("QP 63 or more, cut in its number", -4, 0b00000010);
        read("QP cut between its zeros and its 1", -4, Bits.head(3, 0, 0, 0, 1).number(0, 6).toBytes());
        // 3 + 3 + 2 bits, then seven zeros and one bit more, or six zeros behind 2 bits more.
        read("offset of seven zeros, then the end", -3, Bits.head(1, 0, 0, 0, 1).number(1, 8).toBytes());
        read("offset of six zeros, then the end", -4, Bits.head(1, 0, 0, 0, 1).number(0b11, 2).number(0, 6).toBytes());
        read("offset 8, then the end", -3, Bits.head(1, 0, 0, 0, 2).number(1, 1).signed(8).toBytes(0));
    }

    private static void wrongNumbers() {
        IntraPicture x = read("some", -1, Bits.head(7, 1, 1, 1, 3).offsets(1, 1, 1, 1).number(1, 3).toBytes());
        for (int k : new int[] {-1, -2, 10, 11, 100, Integer.MIN_VALUE, Integer.MAX_VALUE}) {
            CHECK.due("parameter(" + k + ")", x.parameter(k), -100);
        }
    }

    private static void aFaultLeavesTheParametersBefore() {
        int[] good = Bits.head(7, 1, 0, 1, 2).offsets(1, 2, 3, 4).toBytes();
        int[] wrong = Bits.head(9, 0, 1, 0, 3).offsets(0, 0, 8, 0).number(0, 3).toBytes();
        IntraPicture x = new Bytes().unit(1, good).unit(1, wrong).unit(1, 0x80).fed();
        CHECK.due("a fault in the second", x.decode(), -3);
        parametersAre("those of the first", x, 7, 1, 0, 1, 2, 1, 2, 3, 4, 0);
        x = new Bytes().unit(1, good).unit(1, 0x80).unit(1).fed();
        CHECK.due("a fault in the third", x.decode(), -4);
        parametersAre("those of the second", x, 0, 0, 0, 0, 0, 0, 0, 0, 0, 0);
    }

    private static void decodeBeginsWithoutParameters() {
        IntraPicture x = new Bytes().unit(1, 0x80).fed();
        CHECK.due("not decoded yet", x.parameter(0), -100);
        CHECK.due("decode()", x.decode(), -1);
        CHECK.due("decoded", x.parameter(0), 0);
        new Bytes().unit(1, Bits.head(5, 0, 0, 0, 0).toBytes()).feedTo(x);
        CHECK.due("feed() leaves them", x.parameter(0), 0);
        CHECK.due("decode() again", x.decode(), -1);
        CHECK.due("the latest", x.parameter(0), 5);
        // A byte more makes another kind of what was a unit of parameters.
        x = Bytes.of(0, 0, 1, 1, 0x80).fed();
        x.decode();
        x.clear();
        Bytes.of(0, 0, 1, 7, 0x80).feedTo(x);
        CHECK.due("another kind", x.decode(), -1);
        CHECK.due("no parameters", x.parameter(0), -100);
    }

    private static void aStartMayCutParameters() {
        // The last five bits lie in a byte 0, and one more such byte is behind: with a 1 they are a start.
        Bits bits = Bits.head(0, 0, 0, 0, 3).offsets(1, 1, 0, 2).number(0, 3);
        CHECK.due("21 bits", bits.count(), 21);
        IntraPicture x = new Bytes().raw(0, 0, 1, 1).raw(bits.toBytes()).raw(0).fed();
        CHECK.due("whole: decode()", x.decode(), -1);
        parametersAre("whole", x, 0, 0, 0, 0, 3, 1, 1, 0, 2, 0);
        CHECK.due("feed(1, 1)", x.feed(1, 1), true);
        parametersAre("not decoded again", x, 0, 0, 0, 0, 3, 1, 1, 0, 2, 0);
        CHECK.due("cut: units()", x.units(), 2);
        CHECK.due("cut: decode()", x.decode(), -4);
        parametersAre("cut", x);
    }

    private static void aFaultIsGoneWithItsCause() {
        IntraPicture x = new Bytes().unit(1, 0b01000001).fed();
        CHECK.due("offsets are not there yet", x.decode(), -4);
        x.feed(0b11110000, 1);
        CHECK.due("now they are", x.decode(), -1);
        parametersAre("now", x, 1, 0, 0, 0, 1, 0, 0, 0, 0, 0);
        for (int fault : new int[] {0x01, 0x20}) {
            x.clear();
            new Bytes().unit(1, fault).feedTo(x);
            CHECK.due("a fault", x.decode(), fault == 0x01 ? -3 : -4);
            x.clear();
            new Bytes().unit(1, 0x80).feedTo(x);
            CHECK.due("cleared", x.decode(), -1);
            parametersAre("cleared", x, 0, 0, 0, 0, 0, 0, 0, 0, 0, 0);
        }
    }
}

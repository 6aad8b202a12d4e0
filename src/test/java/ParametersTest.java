import java.util.ArrayList;
import java.util.Arrays;
import java.util.List;
import java.util.TreeSet;

/** PARAMETERS and promise 7: how parameters are read, and what their faults are. */
public final class ParametersTest {
    private static final Check CHECK = new Check("ParametersTest");
    private static final int OUT_OF_RANGE = -3;
    private static final int OUT_OF_BITS = -4;
    private static final int NO_PICTURE = -1;

    public static void main(String[] args) {
        CHECK.runAll(ParametersTest.class);
        CHECK.end();
    }

    private static Subject read(String name, int due, int... rest) {
        Subject x = new Bytes().unit(1, rest).fed();
        CHECK.due(name + ": decode()", x.decode(), due);
        return x;
    }

    /** Bits as a text of 0 and 1, where anything else only divides them; the last byte is filled with the bit given. */
    private static int[] bytesOf(String bits, int filler) {
        Bits all = new Bits();
        for (char c : bits.toCharArray()) {
            if (c == '0' || c == '1') {
                all.number(c - '0', 1);
            }
        }
        return all.toBytes(filler);
    }

    private static Subject readBits(int due, String bits) {
        read(bits + ", filled with 1", due, bytesOf(bits, 1));
        return read(bits, due, bytesOf(bits, 0));
    }

    /** Bits that must fill their last byte. */
    private static Subject readWhole(int due, String bits) {
        CHECK.due(bits + ": whole bytes", bits.replace(" ", "").length() % 8, 0);
        return read(bits, due, bytesOf(bits, 0));
    }

    private static void parametersAre(String name, Subject x, int... due) {
        for (int k = 0; k < 10; k++) {
            CHECK.due(name + ": parameter(" + k + ")", x.parameter(k), due.length == 0 ? -100 : due[k]);
        }
    }

    @Says("the REST is what stands behind that, taken as bits, the highest of each byte first.")
    static void theHighestBitOfAByteComesFirst() {
        // 00101 is 4; then 1, 0, 0, 00. The same bits from the lowest on are 00000 00101.
        parametersAre("0x2C", read("0x2C", NO_PICTURE, 0x2C, 0x00), 4, 1, 0, 0, 0, 0, 0, 0, 0, 0);
        // 0001000 1: a code of seven bits, then HIDE in the lowest bit of the first byte and SKIPS in the next one.
        parametersAre("0x11", read("0x11", NO_PICTURE, 0x11, 0x80), 7, 1, 1, 0, 0, 0, 0, 0, 0, 0);
        parametersAre("the kind is no part of it", read("0x80", NO_PICTURE, 0x80), 0, 0, 0, 0, 0, 0, 0, 0, 0, 0);
    }

    @Says("PARAMETERS, in this order.")
    static void theParametersStandInThisOrder() {
        Subject x = readBits(NO_PICTURE, "000011000 1 0 1 11 00110 00101 00100 00111 110");
        parametersAre("in order", x, 23, 1, 0, 1, 3, 3, -2, 2, -3, 6);
    }

    @Says("A CODE is: z bits 0 (if there are seven, it is out of its range), a bit 1, then z bits that are the "
        + "number r: u = 2^z - 1 + r.")
    static void codesOfEachLength() {
        String[] codes = {
            "1", "010", "011", "00100", "00111", "0001000", "0001111", "000010000", "000011111", "00000100000", "00000110100"};
        int[] numbers = {0, 1, 2, 3, 6, 7, 14, 15, 30, 31, 51};
        for (int i = 0; i < codes.length; i++) {
            Subject x = readBits(NO_PICTURE, codes[i] + " 101 00");
            parametersAre("QP " + codes[i], x, numbers[i], 1, 0, 1, 0, 0, 0, 0, 0, 0);
        }
    }

    @Says("z bits 0 (if there are seven, it is out of its range),")
    static void sevenZerosAreOutOfRange() {
        readBits(OUT_OF_RANGE, "0000000 1 0000000 000 00");
        readBits(OUT_OF_RANGE, "0000000 1 1111111 111 11");
        readBits(OUT_OF_RANGE, "00000000 1 00000000 000 00");
        readWhole(OUT_OF_RANGE, "00000000");
        readWhole(OUT_OF_RANGE, "00000000 00000000");
        readWhole(OUT_OF_RANGE, "00000001");
        // Six zeros are a code, though one that no parameter may have: its seven last bits must be there.
        readBits(OUT_OF_RANGE, "000000 1 000000 000 00");
        readBits(OUT_OF_RANGE, "000000 1 111111 000 00");
        // OFFSET 1 has seven zeros, and they are the last bits.
        readWhole(OUT_OF_RANGE, "010 000 01 1 0000000");
        readBits(OUT_OF_RANGE, "1 000 01 1 1 1 0000000 1 0000000");
    }

    @Says("QP: a code, 0 .. 51.")
    static void qpFrom0To51() {
        for (int qp = 0; qp <= 51; qp++) {
            Subject x = read("QP " + qp, NO_PICTURE, Bits.head(qp, 0, 0, 0, 0).toBytes());
            parametersAre("QP " + qp, x, qp, 0, 0, 0, 0, 0, 0, 0, 0, 0);
        }
        for (int qp = 52; qp <= 126; qp++) {
            Subject x = read("QP " + qp, OUT_OF_RANGE, Bits.head(qp, 0, 0, 0, 0).toBytes());
            parametersAre("QP " + qp, x);
        }
    }

    @Says("HIDE, SKIPS, EDGES: one bit each.")
    static void hideSkipsAndEdges() {
        for (int bits = 0; bits < 8; bits++) {
            Bits head = Bits.head(30, bits & 1, bits >> 1 & 1, bits >> 2, 0);
            Subject x = read("bits " + bits, NO_PICTURE, head.toBytes());
            parametersAre("bits " + bits, x, 30, bits & 1, bits >> 1 & 1, bits >> 2, 0, 0, 0, 0, 0, 0);
        }
    }

    @Says({"CLASS: two bits.", "(The first bit of several is the highest.)"})
    static void classFrom0To3() {
        parametersAre("00", readBits(NO_PICTURE, "1 000 00"), 0, 0, 0, 0, 0, 0, 0, 0, 0, 0);
        parametersAre("01", readBits(NO_PICTURE, "1 000 01 1111"), 0, 0, 0, 0, 1, 0, 0, 0, 0, 0);
        parametersAre("10", readBits(NO_PICTURE, "1 000 10 1111"), 0, 0, 0, 0, 2, 0, 0, 0, 0, 0);
        parametersAre("11", readBits(NO_PICTURE, "1 000 11 1111 000"), 0, 0, 0, 0, 3, 0, 0, 0, 0, 0);
    }

    @Says("A SIGNED code is (u + 1) / 2 if u is odd, otherwise -u / 2.")
    static void signedCodes() {
        String[] codes = {
            "1", "010", "011", "00100", "00101", "00110", "00111", "0001000", "0001001", "0001101", "0001110", "0001111"};
        int[] numbers = {0, 1, -1, 2, -2, 3, -3, 4, -4, -6, 7, -7};
        for (int i = 0; i < codes.length; i++) {
            Subject x = readBits(NO_PICTURE, "1 000 01 " + codes[i] + " 1 1 " + codes[i]);
            parametersAre("signed " + codes[i], x, 0, 0, 0, 0, 1, numbers[i], 0, 0, numbers[i], 0);
        }
    }

    @Says("If CLASS is not 0: OFFSET 0 .. 3: four signed codes, each -7 .. 7;")
    static void offsetsFromMinus7To7() {
        for (int offsetClass = 1; offsetClass <= 3; offsetClass++) {
            for (int k = 0; k < 4; k++) {
                for (int offset = -63; offset <= 63; offset++) {
                    int[] offsets = new int[4];
                    offsets[k] = offset;
                    String name = "CLASS " + offsetClass + ", OFFSET " + k + " is " + offset;
                    Bits bits = Bits.head(9, 0, 0, 0, offsetClass).offsets(offsets).number(0, offsetClass == 3 ? 3 : 0);
                    boolean good = offset >= -7 && offset <= 7;
                    Subject x = read(name, good ? NO_PICTURE : OUT_OF_RANGE, bits.toBytes());
                    CHECK.due(name + ": parameter(" + (5 + k) + ")", x.parameter(5 + k), good ? offset : -100);
                    CHECK.due(name + ": parameter(4)", x.parameter(4), good ? offsetClass : -100);
                }
            }
        }
        parametersAre("none for CLASS 0", readBits(NO_PICTURE, "1 000 00 0001000 0001000"), 0, 0, 0, 0, 0, 0, 0, 0, 0, 0);
    }

    @Says({"if CLASS is 3: POSITION: three bits.", "(The first bit of several is the highest.)"})
    static void positionFrom0To7() {
        String[] positions = {"000", "001", "010", "011", "100", "101", "110", "111"};
        for (int position = 0; position < 8; position++) {
            Subject x = readBits(NO_PICTURE, "010 100 11 010 00100 00110 0001001 " + positions[position]);
            parametersAre("POSITION " + position, x, 1, 1, 0, 0, 3, 1, 2, 3, -4, position);
        }
        // The same number of bits without POSITION: 16, and the rest ends there.
        readWhole(NO_PICTURE, "1 000 01 00110 011 1 1");
        readWhole(NO_PICTURE, "1 000 10 00110 011 1 1");
        readWhole(OUT_OF_BITS, "1 000 11 00110 011 1 1");
    }

    @Says("Offsets and POSITION that are not there are 0.")
    static void whatIsNotThereIsZero() {
        Bits full = Bits.head(5, 1, 1, 1, 3).offsets(7, -7, 6, -6).number(7, 3);
        Bits noPosition = Bits.head(5, 1, 1, 1, 2).offsets(1, 2, 3, 4);
        Bits noOffsets = Bits.head(5, 1, 1, 1, 0);
        parametersAre("no offsets", read("no offsets", NO_PICTURE, noOffsets.toBytes(1)), 5, 1, 1, 1, 0, 0, 0, 0, 0, 0);
        parametersAre("no POSITION", read("no POSITION", NO_PICTURE, noPosition.toBytes(1)), 5, 1, 1, 1, 2, 1, 2, 3, 4, 0);
        // Not those of the unit before either.
        Subject x = new Bytes().unit(1, full.toBytes()).unit(1, noPosition.toBytes()).fed();
        CHECK.due("decode()", x.decode(), NO_PICTURE);
        parametersAre("behind others, no POSITION", x, 5, 1, 1, 1, 2, 1, 2, 3, 4, 0);
        x = new Bytes().unit(1, full.toBytes()).unit(1, noOffsets.toBytes()).fed();
        CHECK.due("decode()", x.decode(), NO_PICTURE);
        parametersAre("behind others, no offsets", x, 5, 1, 1, 1, 0, 0, 0, 0, 0, 0);
    }

    @Says("What stands behind does not count.")
    static void whatStandsBehindDoesNotCount() {
        for (int behind : new int[] {0x00, 0x5A, 0xFF}) {
            int[] rest = new int[20];
            Arrays.fill(rest, behind);
            int[] head = Bits.head(0, 0, 0, 0, 0).toBytes(behind & 1);
            System.arraycopy(head, 0, rest, 0, head.length);
            parametersAre("6 bits", read("6 bits", NO_PICTURE, rest), 0, 0, 0, 0, 0, 0, 0, 0, 0, 0);
            int[] full = Bits.head(1, 0, 1, 0, 3).offsets(0, 1, 0, 0).number(5, 3).toBytes(behind & 1);
            System.arraycopy(full, 0, rest, 0, full.length);
            parametersAre("17 bits", read("17 bits", NO_PICTURE, rest), 1, 0, 1, 0, 3, 0, 1, 0, 0, 5);
        }
    }

    /** One parameter's bits, with its name. */
    private static final class Piece {
        private final String name;
        private final String bits;

        Piece(String name, String bits) {
            this.name = name;
            this.bits = bits;
        }
    }

    private static List<Piece> pieces(String qp, int offsetClass, String... offsets) {
        List<Piece> all = new ArrayList<>();
        all.add(new Piece("QP", qp));
        all.add(new Piece("HIDE", "1"));
        all.add(new Piece("SKIPS", "0"));
        all.add(new Piece("EDGES", "1"));
        all.add(new Piece("CLASS", offsetClass == 3 ? "11" : offsetClass == 2 ? "10" : offsetClass == 1 ? "01" : "00"));
        for (int k = 0; k < 4 && offsetClass != 0; k++) {
            all.add(new Piece("OFFSET " + k, offsets[k]));
        }
        if (offsetClass == 3) {
            all.add(new Piece("POSITION", "101"));
        }
        return all;
    }

    /** Cuts the bits wherever a byte ends: all but the whole are a fault. Says which bits were missing first. */
    private static void cutEverywhere(List<Piece> pieces, TreeSet<String> missing) {
        StringBuilder bits = new StringBuilder();
        List<String> names = new ArrayList<>();
        for (Piece piece : pieces) {
            for (int i = 0; i < piece.bits.length(); i++) {
                bits.append(piece.bits.charAt(i));
                names.add(piece.name + " bit " + i + " of " + piece.bits.length());
            }
        }
        int[] rest = bytesOf(bits.toString(), 1);
        for (int length = 0; 8 * length < names.size(); length++) {
            String first = names.get(8 * length);
            missing.add(first);
            read(bits + " without " + first, OUT_OF_BITS, Arrays.copyOf(rest, length));
        }
        read(bits.toString(), NO_PICTURE, rest);
    }

    @Says("-4 if parameters need a bit that the rest does not have,")
    static void eachBitThatMayBeMissing() {
        String[] qps = {"1", "010", "00111", "0001111", "000011111", "00000110100"};
        String[] offsets = {"1", "011", "00100", "0001111"};
        TreeSet<String> missing = new TreeSet<>();
        for (String qp : qps) {
            cutEverywhere(pieces(qp, 0), missing);
            for (int i = 0; i < 256; i++) {
                String[] four = {offsets[i & 3], offsets[i >> 2 & 3], offsets[i >> 4 & 3], offsets[i >> 6]};
                cutEverywhere(pieces(qp, 1 + i % 3, four), missing);
                cutEverywhere(pieces(qp, 3, four), missing);
            }
        }
        // A rest has whole bytes and each code an odd number of bits: HIDE, say, is never the first bit that is missing.
        for (String one : new String[] {"QP bit 0 of 1", "QP bit 8 of 9", "QP bit 8 of 11", "SKIPS bit 0 of 1",
            "CLASS bit 0 of 2", "POSITION bit 0 of 3", "POSITION bit 2 of 3"}) {
            CHECK.due(one + " was missing", missing.contains(one), true);
        }
        for (int k = 0; k < 4; k++) {
            for (int length = 1; length <= 7; length += 2) {
                for (int i = k & 1; i < length; i += 2) {
                    String one = "OFFSET " + k + " bit " + i + " of " + length;
                    CHECK.due(one + " was missing", missing.contains(one), true);
                }
            }
        }
    }

    @Says("-4 if parameters need a bit that the rest does not have,")
    static void codesThatEndTooEarly() {
        readWhole(OUT_OF_BITS, "");
        // QP has six zeros, so no number of it would be in range; but first its bits are needed.
        readWhole(OUT_OF_BITS, "0000001 0");
        readWhole(OUT_OF_BITS, "0000001 1");
        readWhole(OUT_OF_BITS, "00000 1 10");
        // OFFSET 2 has six zeros and the rest ends there, or behind the 1, or one bit before its end.
        readWhole(OUT_OF_BITS, "010 000 01 1 1 000000");
        readWhole(OUT_OF_BITS, "010 000 01 1 0000001");
        readWhole(OUT_OF_BITS, "011 111 10 1 010 0000001 11111");
        readWhole(OUT_OF_RANGE, "011 111 10 010 0000001 111111");
    }

    @Says("-3 if one of them is out of its range,")
    static void rangesAreLookedAtOneByOne() {
        parametersAre("QP 52", readBits(OUT_OF_RANGE, "00000110101 000 00"));
        parametersAre("QP 51", readBits(NO_PICTURE, "00000110100 000 00"), 51, 0, 0, 0, 0, 0, 0, 0, 0, 0);
        parametersAre("OFFSET 3 is 8", readBits(OUT_OF_RANGE, "1 000 10 1 1 1 000010000"));
        parametersAre("OFFSET 3 is -8", readBits(OUT_OF_RANGE, "1 000 10 1 1 1 000010001"));
        parametersAre("OFFSET 0 is 8", readBits(OUT_OF_RANGE, "1 000 10 000010000 1 1 1"));
        parametersAre("OFFSET 0 is -7", readBits(NO_PICTURE, "1 000 10 0001111 1 1 1"), 0, 0, 0, 0, 2, -7, 0, 0, 0, 0);
    }

    @Says("The first fault ends it:")
    static void theFirstFaultOfAUnitCounts() {
        // QP or an offset is out of range, and what stands behind it is missing.
        readWhole(OUT_OF_RANGE, "00000110101 000 01");
        readWhole(OUT_OF_RANGE, "00000110101 11111");
        readWhole(OUT_OF_RANGE, "010 000 11 000010000 0000000");
        readWhole(OUT_OF_RANGE, "1 000 01 1 000010001");
        // An offset is missing, and one before it is at the end of its range.
        readWhole(OUT_OF_BITS, "1 000 01 0001111 010");
    }

    @Says("`int parameter(int k)`: Of the parameters as the latest decode() left them: k = 0 QP, 1 HIDE, 2 SKIPS, 3 "
        + "EDGES, 4 CLASS, 5 .. 8 OFFSET 0 .. 3, 9 POSITION.")
    static void parametersAreThoseOfTheLatestDecode() {
        Subject x = new Bytes().unit(1, 0x80).fed();
        CHECK.due("not decoded yet", x.parameter(0), -100);
        CHECK.due("decode()", x.decode(), NO_PICTURE);
        parametersAre("decoded", x, 0, 0, 0, 0, 0, 0, 0, 0, 0, 0);
        new Bytes().unit(1, Bits.head(5, 0, 1, 0, 3).offsets(1, -2, 3, -4).number(6, 3).toBytes()).feedTo(x);
        parametersAre("fed, not decoded", x, 0, 0, 0, 0, 0, 0, 0, 0, 0, 0);
        CHECK.due("decode() again", x.decode(), NO_PICTURE);
        parametersAre("decoded again", x, 5, 0, 1, 0, 3, 1, -2, 3, -4, 6);
    }

    @Says("-100 if there are none or k is not 0 .. 9.")
    static void noSuchParameter() {
        Subject x = read("some", NO_PICTURE, Bits.head(7, 1, 1, 1, 3).offsets(1, 1, 1, 1).number(1, 3).toBytes());
        for (int k : new int[] {-1, -2, 10, 11, 100, Integer.MIN_VALUE, Integer.MAX_VALUE}) {
            CHECK.due("parameter(" + k + ")", x.parameter(k), -100);
        }
        CHECK.due("parameter(0)", x.parameter(0), 7);
        CHECK.due("parameter(9)", x.parameter(9), 1);
        parametersAre("a new object", new Subject());
        parametersAre("no unit of parameters", decoded(new Bytes().unit(9, 0x80)));
        parametersAre("a fault in the only one", decoded(new Bytes().unit(1)));
        parametersAre("a picture before them", decoded(new Bytes().unit(2).unit(1, 0x80)));
    }

    private static Subject decoded(Bytes bytes) {
        Subject x = bytes.fed();
        CHECK.due("decode() is a fault or -1", x.decode() < 0, true);
        return x;
    }

    @Says("(feed() leaves them and the picture.)")
    static void feedLeavesParametersAndPicture() {
        Subject x = new Bytes().unit(1, Bits.head(9, 1, 0, 0, 0).toBytes()).unit(2, 0xAA, 0x17, 0x99, 0x20).fed();
        CHECK.due("decode()", x.decode() > 0, true);
        int sample = x.sample(5, 5);
        int took = x.took(2);
        Bytes[] all = {new Bytes().unit(2, 1, 2, 3), new Bytes().unit(1, 0x80), new Bytes().unit(1), Bytes.of(7)};
        for (Bytes more : all) {
            CHECK.due("feed", more.feedTo(x), true);
            parametersAre("fed", x, 9, 1, 0, 0, 0, 0, 0, 0, 0, 0);
            CHECK.due("sample(5, 5)", x.sample(5, 5), sample);
            CHECK.due("took(2)", x.took(2), took);
        }
        CHECK.due("decode() sees what was fed", x.decode(), OUT_OF_BITS);
        CHECK.due("parameter(0)", x.parameter(0), 0);
        CHECK.due("sample(5, 5)", x.sample(5, 5), -1);
    }
}

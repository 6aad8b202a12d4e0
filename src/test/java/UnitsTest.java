/** UNITS and the promises 2, 4 and 5: what is fed, how it falls into units, and what their payloads are. */
public final class UnitsTest {
    private static final Check CHECK = new Check("UnitsTest");

    public static void main(String[] args) {
        CHECK.runAll(UnitsTest.class);
        CHECK.end();
    }

    private static void payloadsAre(String name, Bytes bytes, int[]... payloads) {
        Subject x = bytes.fed();
        CHECK.due(name + ": units()", x.units(), payloads.length);
        for (int i = 0; i < payloads.length; i++) {
            CHECK.due(name + ": payload(" + i + ", -1)", x.payload(i, -1), payloads[i].length);
            for (int k = 0; k < payloads[i].length; k++) {
                CHECK.due(name + ": payload(" + i + ", " + k + ")", x.payload(i, k), payloads[i][k]);
            }
            CHECK.due(name + ": behind payload " + i, x.payload(i, payloads[i].length), -1);
        }
        CHECK.due(name + ": behind the units", x.payload(payloads.length, -1), -1);
    }

    private static int[] row(int... bytes) {
        return bytes;
    }

    private static int[] repeated(int value, int times) {
        int[] row = new int[times];
        java.util.Arrays.fill(row, value);
        return row;
    }

    @Says("UNITS. The bytes that were fed (at most 240) are kept in order.")
    static void all240BytesAreKeptInOrder() {
        int[] payload = new int[237];
        for (int k = 0; k < 237; k++) {
            payload[k] = 255 - k;
        }
        payloadsAre("240 bytes", new Bytes().raw(0, 0, 1).raw(payload), payload);
    }

    @Says("A START is three bytes 0, 0, 1 one behind the other;")
    static void onlyThreeBytesAreAStart() {
        payloadsAre("0 0 1", Bytes.of(0, 0, 1), row());
        payloadsAre("two of them", Bytes.of(0, 0));
        payloadsAre("0 1", Bytes.of(0, 1, 9));
        payloadsAre("0 0 0", Bytes.of(0, 0, 0, 0));
        payloadsAre("another first byte", Bytes.of(1, 0, 1, 255, 0, 1, 128, 0, 1));
        payloadsAre("another second byte", Bytes.of(0, 1, 1, 0, 255, 1, 0, 128, 1));
        payloadsAre("another third byte", Bytes.of(0, 0, 2, 0, 0, 255, 0, 0, 129, 0, 0, 3));
        payloadsAre("a byte between", Bytes.of(0, 9, 0, 1, 0, 0, 9, 1));
        payloadsAre("over two calls of feed", Bytes.of(9, 9, 9, 9, 9, 9, 9, 0, 0, 1, 4), row(4));
    }

    @Says("starts are looked for from the first byte on, and no byte belongs to two.")
    static void startsFromTheFirstByteToTheLast() {
        payloadsAre("at the first byte", Bytes.of(0, 0, 1, 7), row(7));
        payloadsAre("at the last byte of 240", new Bytes().raw(repeated(9, 237)).raw(0, 0, 1), row());
        payloadsAre("one byte short of it", new Bytes().raw(repeated(9, 238)).raw(0, 0));
        payloadsAre("side by side", Bytes.of(0, 0, 1, 0, 0, 1, 0, 0, 1, 6), row(), row(), row(6));
        payloadsAre("1 is not used twice", Bytes.of(0, 0, 1, 0, 1, 0, 0, 1), row(0, 1), row());
        payloadsAre("the last two zeros", Bytes.of(0, 0, 0, 1, 2), row(2));
    }

    @Says("A unit's bytes are those behind a start, up to the next start or the end.")
    static void unitsReachToTheNextStartOrTheEnd() {
        payloadsAre("none, then none", Bytes.of(0, 0, 1, 0, 0, 1), row(), row());
        payloadsAre("some, then some", Bytes.of(0, 0, 1, 5, 6, 0, 0, 1, 7, 8, 9), row(5, 6), row(7, 8, 9));
        payloadsAre("a zero before a start stays", Bytes.of(0, 0, 1, 5, 0, 0, 0, 1, 6), row(5, 0), row(6));
        payloadsAre("zeros alone before a start", Bytes.of(0, 0, 1, 0, 0, 0, 0, 1), row(0, 0), row());
        payloadsAre("one zero at the end", Bytes.of(0, 0, 1, 5, 0), row(5, 0));
        payloadsAre("half a start at the end", Bytes.of(0, 0, 1, 5, 0, 0), row(5, 0, 0));
    }

    @Says("Its PAYLOAD is what is left of them when they are gone through with a count of zeros, at first 0:")
    static void theCountBeginsWithZeroInEachUnit() {
        payloadsAre("the zeros of the start", Bytes.of(0, 0, 1, 3, 5), row(3, 5));
        payloadsAre("and one more", Bytes.of(0, 0, 1, 0, 3, 5), row(0, 3, 5));
        payloadsAre("zeros before the start", Bytes.of(0, 0, 0, 0, 0, 1, 3, 3), row(3, 3));
        payloadsAre("zeros of the unit before", Bytes.of(0, 0, 1, 4, 0, 0, 0, 0, 1, 3, 3), row(4, 0, 0), row(3, 3));
    }

    @Says("if the count is 2 or more and the byte is 3, it is left out and the count is 0 again;")
    static void threesBehindTwoZerosAreLeftOut() {
        payloadsAre("no zero", Bytes.of(0, 0, 1, 9, 3), row(9, 3));
        payloadsAre("one zero", Bytes.of(0, 0, 1, 9, 0, 3), row(9, 0, 3));
        payloadsAre("two zeros", Bytes.of(0, 0, 1, 9, 0, 0, 3), row(9, 0, 0));
        payloadsAre("three zeros", Bytes.of(0, 0, 1, 9, 0, 0, 0, 3, 8), row(9, 0, 0, 0, 8));
        payloadsAre("236 zeros", new Bytes().raw(0, 0, 1).raw(repeated(0, 236)).raw(3), repeated(0, 236));
        payloadsAre("a second 3", Bytes.of(0, 0, 1, 0, 0, 3, 3), row(0, 0, 3));
        payloadsAre("one zero behind it", Bytes.of(0, 0, 1, 0, 0, 3, 0, 3), row(0, 0, 0, 3));
        payloadsAre("two zeros behind it", Bytes.of(0, 0, 1, 0, 0, 3, 0, 0, 3), row(0, 0, 0, 0));
        payloadsAre("no start comes of it", Bytes.of(0, 0, 1, 7, 0, 0, 3, 1, 8), row(7, 0, 0, 1, 8));
    }

    @Says("otherwise it stays, and the count is one more if it is 0, and 0 if it is not.")
    static void otherBytesStay() {
        payloadsAre("2 and 4", Bytes.of(0, 0, 1, 0, 0, 2, 0, 0, 4), row(0, 0, 2, 0, 0, 4));
        payloadsAre("131, which has the same low bits", Bytes.of(0, 0, 1, 0, 0, 131), row(0, 0, 131));
        payloadsAre("a byte between the zeros", Bytes.of(0, 0, 1, 0, 5, 0, 3), row(0, 5, 0, 3));
        payloadsAre("a byte behind the zeros", Bytes.of(0, 0, 1, 0, 0, 5, 3), row(0, 0, 5, 3));
        payloadsAre("a 3 that stays", Bytes.of(0, 0, 1, 0, 3, 0, 3), row(0, 3, 0, 3));
    }

    @Says("Bytes before the first start do not count.")
    static void bytesBeforeTheFirstStartDoNotCount() {
        payloadsAre("no start at all", Bytes.of(1, 0x80, 2, 2));
        payloadsAre("some bytes", Bytes.of(9, 8, 0, 0, 1, 7), row(7));
        payloadsAre("zeros", Bytes.of(0, 0, 0, 0, 0, 0, 1, 7), row(7));
        Subject x = Bytes.of(2, 1, 0x80, 0, 0, 1, 9).fed();
        CHECK.due("decode()", x.decode(), -1);
        CHECK.due("parameter(0)", x.parameter(0), -100);
    }

    @Says("`boolean feed(long v, int n)`: Feeds n bytes: the lowest n bytes of v, the lowest one first.")
    static void theLowestByteIsFedFirst() {
        Subject x = new Subject();
        CHECK.due("feed of 8", x.feed(0xFF80_7F05_0401_0000L, 8), true);
        int[] due = {4, 5, 127, 128, 255};
        CHECK.due("length", x.payload(0, -1), 5);
        for (int k = 0; k < 5; k++) {
            CHECK.due("payload(0, " + k + ")", x.payload(0, k), due[k]);
        }
        for (int n = 1; n <= 8; n++) {
            x = Bytes.of(0, 0, 1).fed();
            CHECK.due("feed of " + n, x.feed(0x8877_6655_4433_2211L, n), true);
            CHECK.due("length of " + n, x.payload(0, -1), n);
            for (int k = 0; k < n; k++) {
                CHECK.due("byte " + k + " of " + n, x.payload(0, k), 0x11 * (k + 1));
            }
        }
        x = Bytes.of(0, 0, 1).fed();
        CHECK.due("feed(-1, 1)", x.feed(-1L, 1), true);
        CHECK.due("feed(Long.MIN_VALUE, 8)", x.feed(Long.MIN_VALUE, 8), true);
        CHECK.due("255", x.payload(0, 0), 255);
        CHECK.due("128", x.payload(0, 8), 128);
    }

    @Says("True; false, changing nothing, if n is not 1 .. 8,")
    static void countsThatAreNotOneToEightAreRefused() {
        Subject x = Bytes.of(0, 0, 1, 5).fed();
        for (int n : new int[] {0, -1, 9, 10, 256, 257, -8, -247, Integer.MIN_VALUE, Integer.MAX_VALUE}) {
            CHECK.due("feed(6, " + n + ")", x.feed(6, n), false);
            CHECK.due("nothing was fed", x.payload(0, -1), 1);
        }
        CHECK.due("feed(6, 1)", x.feed(6, 1), true);
        CHECK.due("now 2", x.payload(0, -1), 2);
        CHECK.due("feed(7, 8)", x.feed(7, 8), true);
        CHECK.due("now 10", x.payload(0, -1), 10);
        CHECK.due("the third", x.payload(0, 2), 7);
    }

    @Says("or there would be more than 240.")
    static void moreThan240BytesAreRefused() {
        for (int n = 1; n <= 8; n++) {
            // So many are fed that n more are one too many, and n - 1 more are just 240.
            Subject x = new Bytes().raw(0, 0, 1).raw(repeated(9, 238 - n)).fed();
            CHECK.due(n + " more than there is room for", x.feed(7, n), false);
            CHECK.due("nothing was fed", x.payload(0, -1), 238 - n);
            if (n > 1) {
                CHECK.due(n - 1 + " more", x.feed(7, n - 1), true);
            }
            CHECK.due("240 are there", x.payload(0, -1), 237);
            for (int m = 1; m <= 8; m++) {
                CHECK.due("240 and " + m + " more", x.feed(7, m), false);
            }
            CHECK.due("still 240", x.payload(0, -1), 237);
        }
    }

    @Says("A call that is refused changes nothing.")
    static void aRefusedCallChangesNothing() {
        Subject x = new Bytes().unit(1, Bits.head(20, 1, 1, 1, 2).offsets(1, 2, 3, 4).toBytes())
            .unit(2, 0x5A, 0xC3, 0x0F).fed();
        int leaves = x.decode();
        int[] before = allAnswers(x);
        CHECK.due("feed of 0", x.feed(0x8001010000L, 0), false);
        CHECK.due("feed of 9", x.feed(0x8001010000L, 9), false);
        x.payload(-1, 0);
        x.payload(9, 0);
        x.payload(0, 99);
        x.payload(0, -2);
        x.parameter(10);
        x.sample(16, 0);
        x.plain(-1, 0);
        x.predicted(0, 16);
        x.level(0, -1);
        x.mode(16, 16);
        x.side(-1, -1);
        x.chance(14);
        x.took(3);
        same("refused calls", before, allAnswers(x));
        CHECK.due("decode() again", x.decode(), leaves);
        same("decoded again", before, allAnswers(x));
    }

    private static void same(String name, int[] due, int[] got) {
        for (int i = 0; i < due.length; i++) {
            CHECK.due(name + ": answer " + i, got[i], due[i]);
        }
    }

    /** So few that the object stays the same one all through the test. */
    private static int[] allAnswers(Subject x) {
        int[] all = new int[1 + 20 + 14 + 10 + 3 + 6 * 16];
        int at = 0;
        all[at++] = x.units();
        for (int k = 0; k < 20; k++) {
            all[at++] = x.payload(k / 10, k % 10 - 1);
        }
        for (int k = 0; k < 14; k++) {
            all[at++] = x.chance(k);
        }
        for (int k = 0; k < 10; k++) {
            all[at++] = x.parameter(k);
        }
        for (int k = 0; k < 3; k++) {
            all[at++] = x.took(k);
        }
        for (int k = 0; k < 16; k++) {
            all[at++] = x.sample(k, 5 * k % 16);
            all[at++] = x.plain(k, 5 * k % 16);
            all[at++] = x.predicted(k, 5 * k % 16);
            all[at++] = x.level(k, 5 * k % 16);
            all[at++] = x.mode(k, 5 * k % 16);
            all[at++] = x.side(k, 5 * k % 16);
        }
        return all;
    }

    @Says("`int units()`: How many units the bytes have as they are now.")
    static void unitsAreCountedAsTheBytesAreNow() {
        Subject x = new Subject();
        CHECK.due("no bytes", x.units(), 0);
        int[] bytes = {0, 0, 1, 0, 0, 3, 0, 0, 1, 0, 0, 1};
        int[] due = {0, 0, 1, 1, 1, 1, 1, 1, 2, 2, 2, 3};
        for (int i = 0; i < bytes.length; i++) {
            CHECK.due("feed " + i, x.feed(bytes[i], 1), true);
            CHECK.due("units() after " + i, x.units(), due[i]);
        }
        x.clear();
        CHECK.due("cleared", x.units(), 0);
        for (int i = 1; i <= 80; i++) {
            CHECK.due("feed start " + i, x.feed(0x010000, 3), true);
            CHECK.due("units()", x.units(), i);
        }
        CHECK.due("payload(79, -1)", x.payload(79, -1), 0);
        CHECK.due("payload(80, -1)", x.payload(80, -1), -1);
        CHECK.due("decode()", x.decode(), -1);
    }

    @Says("`int payload(int i, int k)`: Byte k (from 0) of the payload of unit i (from 0), as the bytes are now;")
    static void payloadBytesAreCountedFromZero() {
        Subject x = Bytes.of(0, 0, 1, 5, 0, 0, 3, 6, 0, 0, 1, 255).fed();
        int[] first = {5, 0, 0, 6};
        for (int k = 0; k < 4; k++) {
            CHECK.due("payload(0, " + k + ")", x.payload(0, k), first[k]);
        }
        CHECK.due("payload(1, 0)", x.payload(1, 0), 255);
        x.feed(0x040000, 3);
        CHECK.due("three more", x.payload(1, 3), 4);
        x = Bytes.of(0, 0, 1, 5, 0, 0).fed();
        CHECK.due("a 0 that stays", x.payload(0, 2), 0);
        x.feed(1, 1);
        CHECK.due("a 0 that now belongs to a start", x.payload(0, 2), -1);
        x = new Bytes().unit(1, 0x80).unit(2, 0x12, 0x34).unit(9, 1, 2, 3).fed();
        int leaves = x.decode();
        int took = x.took(2);
        CHECK.due("payload(2, 3) between two calls of decode()", x.payload(2, 3), 3);
        CHECK.due("took(2) stays", x.took(2), took);
        CHECK.due("decode() again", x.decode(), leaves);
    }

    @Says("with k = -1 how many it has.")
    static void minusOneAsksForTheLength() {
        Subject x = Bytes.of(0, 0, 1, 5, 6, 7, 0, 0, 1, 0, 0, 1, 0, 0, 3).fed();
        CHECK.due("payload(0, -1)", x.payload(0, -1), 3);
        CHECK.due("payload(1, -1), which is empty", x.payload(1, -1), 0);
        CHECK.due("payload(2, -1), without the 3", x.payload(2, -1), 2);
        x = new Bytes().raw(0, 0, 1).raw(repeated(0, 237)).fed();
        CHECK.due("the longest", x.payload(0, -1), 237);
    }

    @Says("-1 if there is no such unit or byte.")
    static void noSuchUnitOrByte() {
        Subject x = Bytes.of(0, 0, 1, 5, 6, 0, 0, 1, 0, 0, 1, 7).fed();
        for (int i : new int[] {-1, -2, 3, 4, 80, Integer.MIN_VALUE, Integer.MAX_VALUE}) {
            for (int k : new int[] {-2, -1, 0, 1, Integer.MAX_VALUE}) {
                CHECK.due("payload(" + i + ", " + k + ")", x.payload(i, k), -1);
            }
        }
        for (int k : new int[] {-2, -3, 2, 3, 239, 240, 241, 1000, Integer.MIN_VALUE, Integer.MAX_VALUE}) {
            CHECK.due("payload(0, " + k + ")", x.payload(0, k), -1);
        }
        CHECK.due("payload(1, 0), which is empty", x.payload(1, 0), -1);
        CHECK.due("payload(0, 1)", x.payload(0, 1), 6);
        CHECK.due("payload(2, 0)", x.payload(2, 0), 7);
        CHECK.due("payload(2, 1)", x.payload(2, 1), -1);
    }
}

/** Promises 2, 4 and 5: what is fed, how it falls into units, and what their payloads are. */
public final class UnitsTest {
    private static final Check CHECK = new Check("UnitsTest");

    public static void main(String[] args) {
        lowestByteComesFirst();
        onlyTheLowestBytesCount();
        wrongCountsAreRefused();
        atMost240Bytes();
        startsAreFoundWhereverTheyLie();
        zerosBeforeAStartStay();
        threesBehindTwoZerosAreLeftOut();
        theStartsOwnZerosDoNotCount();
        wrongPlacesAnswerMinusOne();
        unitsFollowTheBytesAsTheyAreNow();
        aPayloadMayBeAskedBetweenDecodes();
        as80UnitsOfNoBytes();
        CHECK.end();
    }

    private static void payloadsAre(String name, Bytes bytes, int[]... payloads) {
        IntraPicture x = bytes.fed();
        CHECK.due(name + ": units()", x.units(), payloads.length);
        for (int i = 0; i < payloads.length; i++) {
            CHECK.due(name + ": payload(" + i + ", -1)", x.payload(i, -1), payloads[i].length);
            for (int k = 0; k < payloads[i].length; k++) {
                CHECK.due(name + ": payload(" + i + ", " + k + ")", x.payload(i, k), payloads[i][k]);
            }
            CHECK.due(name + ": behind payload " + i, x.payload(i, payloads[i].length), -1);
        }
        CHECK.due(name + ": behind the units", x.payload(payloads.length, -1), -1);
    }

    private static int[] row(int... bytes) {
        return bytes;
    }

    private static void lowestByteComesFirst() {
        IntraPicture x = new IntraPicture();
        CHECK.due("feed", x.feed(0xFF80_7F05_0401_0000L, 8), true);
        CHECK.due("units", x.units(), 1);
        CHECK.due("length", x.payload(0, -1), 5);
        int[] due = {4, 5, 127, 128, 255};
        for (int k = 0; k < 5; k++) {
            CHECK.due("byte " + k, x.payload(0, k), due[k]);
        }
    }

    private static void onlyTheLowestBytesCount() {
        IntraPicture x = new IntraPicture();
        CHECK.due("feed 3 of 8", x.feed(0x7777_7777_7701_0000L, 3), true);
        CHECK.due("nothing behind", x.payload(0, -1), 0);
        CHECK.due("feed 1 of 8", x.feed(-1L, 1), true);
        CHECK.due("one behind", x.payload(0, -1), 1);
        CHECK.due("it is 255", x.payload(0, 0), 255);
    }

    private static void wrongCountsAreRefused() {
        IntraPicture x = Bytes.of(0, 0, 1).fed();
        for (int n : new int[] {0, -1, 9, 10, 256, Integer.MIN_VALUE, Integer.MAX_VALUE, -8}) {
            CHECK.due("feed(5, " + n + ")", x.feed(5, n), false);
            CHECK.due("nothing was fed", x.payload(0, -1), 0);
        }
        for (int n = 1; n <= 8; n++) {
            CHECK.due("feed(5, " + n + ")", x.feed(5, n), true);
            CHECK.due("n were fed", x.payload(0, -1), n * (n + 1) / 2);
        }
    }

    private static void atMost240Bytes() {
        IntraPicture x = Bytes.of(0, 0, 1).fed();
        for (int i = 0; i < 29; i++) {
            CHECK.due("feed " + i, x.feed(0x0909090909090909L, 8), true);
        }
        CHECK.due("235 fed, 6 more", x.feed(7, 6), false);
        CHECK.due("235 fed, 8 more", x.feed(7, 8), false);
        CHECK.due("changed nothing", x.payload(0, -1), 232);
        CHECK.due("235 fed, 5 more", x.feed(0x0807060504L, 5), true);
        CHECK.due("240 fed, 1 more", x.feed(7, 1), false);
        CHECK.due("length", x.payload(0, -1), 237);
        CHECK.due("the last", x.payload(0, 236), 8);
        CHECK.due("behind the last", x.payload(0, 237), -1);
        x.clear();
        CHECK.due("after clear", x.feed(7, 8), true);
    }

    private static void startsAreFoundWhereverTheyLie() {
        payloadsAre("no bytes", Bytes.of());
        payloadsAre("no start", Bytes.of(1, 0, 1, 0, 2, 0, 0, 2, 0, 0));
        payloadsAre("bytes before", Bytes.of(9, 8, 0, 0, 1, 7), row(7));
        payloadsAre("half a start", Bytes.of(0, 0, 1, 5, 0, 0), row(5, 0, 0));
        payloadsAre("across two feeds", Bytes.of(9, 9, 9, 9, 9, 9, 9, 0, 0, 1, 4), row(4));
        payloadsAre("one behind the other", Bytes.of(0, 0, 1, 0, 0, 1, 0, 0, 1, 6), row(), row(), row(6));
        payloadsAre("alike", Bytes.of(0, 0, 1, 1, 0, 1, 0, 0, 1), row(1, 0, 1), row());
        payloadsAre("three zeros", Bytes.of(0, 0, 0, 1, 2), row(2));
        payloadsAre("other third byte", Bytes.of(0, 0, 1, 2, 0, 0, 129, 0, 0, 2), row(2, 0, 0, 129, 0, 0, 2));
    }

    private static void zerosBeforeAStartStay() {
        payloadsAre("one zero", Bytes.of(0, 0, 1, 5, 0, 0, 0, 1, 6), row(5, 0), row(6));
        payloadsAre("two zeros", Bytes.of(0, 0, 1, 0, 0, 0, 0, 1), row(0, 0), row());
    }

    private static void threesBehindTwoZerosAreLeftOut() {
        payloadsAre("one", Bytes.of(0, 0, 1, 9, 0, 0, 3, 1), row(9, 0, 0, 1));
        payloadsAre("at the end", Bytes.of(0, 0, 1, 9, 0, 0, 3), row(9, 0, 0));
        payloadsAre("more zeros", Bytes.of(0, 0, 1, 9, 0, 0, 0, 0, 3, 3), row(9, 0, 0, 0, 0, 3));
        payloadsAre("one zero alone", Bytes.of(0, 0, 1, 9, 0, 3, 0, 3), row(9, 0, 3, 0, 3));
        payloadsAre("the count is 0 again", Bytes.of(0, 0, 1, 9, 0, 0, 3, 0, 3, 0, 0, 3), row(9, 0, 0, 0, 3, 0, 0));
        payloadsAre("a byte between", Bytes.of(0, 0, 1, 0, 0, 2, 3, 0, 5, 0, 3), row(0, 0, 2, 3, 0, 5, 0, 3));
        payloadsAre("hides a start", Bytes.of(0, 0, 1, 0, 0, 3, 0, 0, 3, 1), row(0, 0, 0, 0, 1));
        payloadsAre("a start made by leaving out", Bytes.of(0, 0, 1, 7, 0, 0, 3, 1, 8), row(7, 0, 0, 1, 8));
    }

    private static void theStartsOwnZerosDoNotCount() {
        payloadsAre("3 at once", Bytes.of(0, 0, 1, 3, 0, 0, 1, 0, 3), row(3), row(0, 3));
        payloadsAre("a count does not reach the next unit", Bytes.of(0, 0, 1, 4, 0, 0, 0, 0, 1, 3, 3), row(4, 0, 0), row(3, 3));
    }

    private static void wrongPlacesAnswerMinusOne() {
        IntraPicture x = Bytes.of(0, 0, 1, 5, 6, 0, 0, 1).fed();
        for (int i : new int[] {-1, 2, 3, 80, Integer.MIN_VALUE, Integer.MAX_VALUE}) {
            for (int k : new int[] {-2, -1, 0, 1}) {
                CHECK.due("payload(" + i + ", " + k + ")", x.payload(i, k), -1);
            }
        }
        for (int k : new int[] {-2, -3, 2, 3, 239, 240, 1000, Integer.MIN_VALUE, Integer.MAX_VALUE}) {
            CHECK.due("payload(0, " + k + ")", x.payload(0, k), -1);
        }
        CHECK.due("an empty payload", x.payload(1, 0), -1);
        CHECK.due("its length", x.payload(1, -1), 0);
    }

    private static void unitsFollowTheBytesAsTheyAreNow() {
        IntraPicture x = new IntraPicture();
        int[] bytes = {0, 0, 1, 0, 0, 3, 0, 0, 1};
        int[] units = {0, 0, 1, 1, 1, 1, 1, 1, 2};
        int[] lengths = {-1, -1, 0, 1, 2, 2, 3, 4, 2};
        for (int i = 0; i < bytes.length; i++) {
            CHECK.due("feed " + i, x.feed(bytes[i], 1), true);
            CHECK.due("units after " + i, x.units(), units[i]);
            CHECK.due("length after " + i, x.payload(0, -1), lengths[i]);
        }
        CHECK.due("the second", x.payload(1, -1), 0);
    }

    private static void aPayloadMayBeAskedBetweenDecodes() {
        IntraPicture x = new Bytes().unit(1, 0x80).unit(2, 0x12, 0x34).unit(9, 1, 2, 3).fed();
        int leaves = x.decode();
        int took = x.took(2);
        CHECK.due("payload(2, 3)", x.payload(2, 3), 3);
        CHECK.due("took(2) stays", x.took(2), took);
        CHECK.due("decode() again", x.decode(), leaves);
        CHECK.due("took(2) again", x.took(2), took);
    }

    private static void as80UnitsOfNoBytes() {
        Bytes bytes = new Bytes();
        for (int i = 0; i < 80; i++) {
            bytes.raw(0, 0, 1);
        }
        IntraPicture x = bytes.fed();
        CHECK.due("units()", x.units(), 80);
        CHECK.due("payload(79, -1)", x.payload(79, -1), 0);
        CHECK.due("payload(80, -1)", x.payload(80, -1), -1);
        CHECK.due("decode()", x.decode(), -1);
    }
}

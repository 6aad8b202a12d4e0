/** The promises 1 and 3: a new object has nothing, and clear() makes all as it was then. */
public final class NewObjectTest {
    private static final Check CHECK = new Check("NewObjectTest");
    private static final int[] SOME = {Integer.MIN_VALUE, -2, -1, 0, 1, 2, 3, 9, 13, 14, 15, 16, 255, Integer.MAX_VALUE};

    public static void main(String[] args) {
        CHECK.runAll(NewObjectTest.class);
        CHECK.end();
    }

    private static void hasNothing(String name, Subject x) {
        CHECK.due(name + ": units()", x.units(), 0);
        for (int a : SOME) {
            CHECK.due(name + ": parameter(" + a + ")", x.parameter(a), -100);
            CHECK.due(name + ": chance(" + a + ")", x.chance(a), -1);
            CHECK.due(name + ": took(" + a + ")", x.took(a), -1);
            for (int b : SOME) {
                String at = "(" + a + ", " + b + ")";
                CHECK.due(name + ": payload" + at, x.payload(a, b), -1);
                CHECK.due(name + ": sample" + at, x.sample(a, b), -1);
                CHECK.due(name + ": plain" + at, x.plain(a, b), -1);
                CHECK.due(name + ": predicted" + at, x.predicted(a, b), -1);
                CHECK.due(name + ": level" + at, x.level(a, b), -1000);
                CHECK.due(name + ": mode" + at, x.mode(a, b), -1);
                CHECK.due(name + ": side" + at, x.side(a, b), -1);
            }
        }
    }

    private static Bytes somePicture() {
        return new Bytes().unit(1, Bits.head(20, 1, 1, 1, 1).offsets(1, 2, 3, 4).toBytes()).unit(2, 0x5A, 0xC3, 0x0F);
    }

    private static Bytes anotherPicture() {
        return new Bytes().unit(1, Bits.head(51, 1, 1, 1, 3).offsets(7, -7, 7, -7).number(5, 3).toBytes())
            .unit(2, 0xFF, 0xEE, 0xDD, 0x12, 0x34, 0x99);
    }

    @Says("`IntraPicture()`: No bytes, no parameters, no picture.")
    static void aNewObjectHasNothing() {
        Subject x = new Subject();
        hasNothing("new", x);
        CHECK.due("decode() without bytes", x.decode(), -1);
        hasNothing("new, decoded", x);
    }

    @Says("`IntraPicture()`: No bytes, no parameters, no picture.")
    static void aNewObjectHasRoomFor240Bytes() {
        Subject x = new Subject();
        for (int i = 0; i < 30; i++) {
            CHECK.due("feed " + i, x.feed(0x0909_0909_0909_0909L, 8), true);
        }
        CHECK.due("feed of one more", x.feed(9, 1), false);
        // No zero lies before the first byte.
        x = Bytes.of(0, 1, 1, 0x80).fed();
        CHECK.due("units()", x.units(), 0);
        x = Bytes.of(1, 1, 0x80).fed();
        CHECK.due("units()", x.units(), 0);
    }

    @Says("`IntraPicture()`: No bytes, no parameters, no picture.")
    static void aNewObjectHasNothingBesideAnother() {
        Subject one = somePicture().fed();
        CHECK.due("decode()", one.decode() > 0, true);
        hasNothing("beside another", new Subject());
        CHECK.due("another", anotherPicture().fed().decode() > 0, true);
        CHECK.due("the first stays", one.parameter(0), 20);
    }

    @Says("`void clear()`: All as at the beginning.")
    static void clearForgetsBytesParametersAndPicture() {
        Subject x = somePicture().fed();
        CHECK.due("decode() finds leaves", x.decode() > 0, true);
        CHECK.due("parameter(0)", x.parameter(0), 20);
        x.clear();
        hasNothing("cleared", x);
        CHECK.due("decode() after clear()", x.decode(), -1);
        hasNothing("cleared, decoded", x);
        x.clear();
        x.clear();
        hasNothing("cleared twice more", x);
    }

    @Says("`void clear()`: All as at the beginning.")
    static void clearForgetsBytesThatWereNotDecoded() {
        Subject x = somePicture().fed();
        x.clear();
        hasNothing("cleared", x);
        CHECK.due("decode()", x.decode(), -1);
        // Two zeros before clear() and a 1 behind it are no start.
        x.feed(0, 2);
        x.clear();
        x.feed(1, 1);
        CHECK.due("units()", x.units(), 0);
    }

    @Says("`void clear()`: All as at the beginning.")
    static void clearForgetsParametersBehindAFault() {
        Subject x = new Bytes().unit(1, 0x80).unit(1).fed();
        CHECK.due("decode()", x.decode(), -4);
        CHECK.due("parameter(0)", x.parameter(0), 0);
        x.clear();
        hasNothing("fault, cleared", x);
        CHECK.due("decode()", x.decode(), -1);
    }

    @Says("`void clear()`: All as at the beginning.")
    static void clearOfAFullObjectMakesRoomFor240Bytes() {
        Subject x = new Subject();
        for (int i = 0; i < 30; i++) {
            CHECK.due("feed " + i, x.feed(0x0909_0909_0901_0000L, 8), true);
        }
        CHECK.due("full", x.feed(1, 1), false);
        x.clear();
        for (int i = 0; i < 30; i++) {
            CHECK.due("cleared, feed " + i, x.feed(0x0909_0909_0901_0000L, 8), true);
        }
        CHECK.due("full again", x.feed(1, 1), false);
        CHECK.due("units()", x.units(), 30);
    }

    @Says("`void clear()`: All as at the beginning.")
    static void aClearedObjectIsLikeANewOne() {
        Subject used = anotherPicture().fed();
        used.decode();
        used.clear();
        CHECK.due("feed", somePicture().feedTo(used), true);
        Subject fresh = somePicture().fed();
        CHECK.due("decode()", used.decode(), fresh.decode());
        for (int i = 0; i < 64; i++) {
            int x = 5 * i % 16;
            int y = i / 4;
            CHECK.due("sample at " + x + ", " + y, used.sample(x, y), fresh.sample(x, y));
            CHECK.due("level at " + x + ", " + y, used.level(x, y), fresh.level(x, y));
            CHECK.due("mode at " + x + ", " + y, used.mode(x, y), fresh.mode(x, y));
            CHECK.due("side at " + x + ", " + y, used.side(x, y), fresh.side(x, y));
        }
        for (int k = 0; k < 14; k++) {
            CHECK.due("chance " + k, used.chance(k), fresh.chance(k));
            CHECK.due("parameter " + k, used.parameter(k), fresh.parameter(k));
        }
        for (int k = 0; k < 3; k++) {
            CHECK.due("took " + k, used.took(k), fresh.took(k));
        }
    }

    @Says("An object is used for at most 512 calls after it has been made; what later calls answer is free.")
    static void call512IsAnsweredAsAnyOther() {
        IntraPicture x = new IntraPicture();
        int calls = 0;
        for (int i = 0; i < 51; i++) {
            CHECK.due("feed", x.feed(0x8001010000L, 5), true);
            CHECK.due("feed", x.feed(0x02010000L, 4), true);
            CHECK.due("decode()", x.decode(), 16);
            CHECK.due("units()", x.units(), 2);
            CHECK.due("parameter(0)", x.parameter(0), 0);
            CHECK.due("level(15, 15)", x.level(15, 15), 3);
            CHECK.due("took(1)", x.took(1), 512);
            x.clear();
            CHECK.due("decode()", x.decode(), -1);
            CHECK.due("feed of 9", x.feed(1, 9), false);
            calls += 10;
        }
        CHECK.due("feed", x.feed(0x8001010000L, 5), true);
        CHECK.due("calls so far", calls + 1, 511);
        CHECK.due("call 512: decode()", x.decode(), -1);
        IntraPicture full = new IntraPicture();
        for (int i = 0; i < 240; i++) {
            CHECK.due("feed " + i, full.feed(9, 1), true);
        }
        for (int i = 240; i < 511; i++) {
            CHECK.due("feed " + i, full.feed(9, 1), false);
        }
        CHECK.due("call 512: units()", full.units(), 0);
    }
}

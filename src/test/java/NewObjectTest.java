/** Promises 1 and 3: a new object has nothing, and clear() makes all as it was then. */
public final class NewObjectTest {
    private static final Check CHECK = new Check("NewObjectTest");
    private static final int[] SOME = {Integer.MIN_VALUE, -2, -1, 0, 1, 2, 3, 9, 13, 14, 15, 16, 255, Integer.MAX_VALUE};

    public static void main(String[] args) {
        IntraPicture x = new IntraPicture();
        hasNothing("new", x);
        CHECK.due("decode() without bytes", x.decode(), -1);
        hasNothing("new, decoded", x);
        x.clear();
        hasNothing("new, cleared", x);
        clearForgetsAll();
        clearForgetsParametersBehindAFault();
        clearedIsLikeNew();
        objectsShareNothing();
        asTheReadmeSays();
        CHECK.end();
    }

    private static void hasNothing(String name, IntraPicture x) {
        CHECK.due(name + ": units()", x.units(), 0);
        for (int a : SOME) {
            CHECK.due(name + ": parameter(" + a + ")", x.parameter(a), -100);
            CHECK.due(name + ": chance(" + a + ")", x.chance(a), -1);
            CHECK.due(name + ": took(" + a + ")", x.took(a), -1);
            for (int b : SOME) {
                String at = "(" + a + ", " + b + ")";
                CHECK.due(name + ": payload" + at, x.payload(a, b), -1);
                CHECK.due(name + ": sample" + at, x.sample(a, b), -1);
                CHECK.due(name + ": plain" + at, x.plain(a, b), -1);
                CHECK.due(name + ": predicted" + at, x.predicted(a, b), -1);
                CHECK.due(name + ": level" + at, x.level(a, b), -1000);
                CHECK.due(name + ": mode" + at, x.mode(a, b), -1);
                CHECK.due(name + ": side" + at, x.side(a, b), -1);
            }
        }
    }

    private static Bytes somePicture() {
        return new Bytes().unit(1, Bits.head(20, 1, 1, 1, 1).offsets(1, 2, 3, 4).toBytes()).unit(2, 0x5A, 0xC3, 0x0F);
    }

    private static void clearForgetsAll() {
        IntraPicture x = somePicture().fed();
        CHECK.due("decode() finds leaves", x.decode() >= 4, true);
        CHECK.due("parameter(0)", x.parameter(0), 20);
        x.clear();
        hasNothing("cleared", x);
        CHECK.due("decode() after clear()", x.decode(), -1);
        hasNothing("cleared, decoded", x);
    }

    private static void clearForgetsParametersBehindAFault() {
        IntraPicture x = new Bytes().unit(1, 0x80).unit(1).fed();
        CHECK.due("decode()", x.decode(), -4);
        CHECK.due("parameter(0)", x.parameter(0), 0);
        x.clear();
        hasNothing("fault, cleared", x);
    }

    private static void clearedIsLikeNew() {
        IntraPicture used = new Bytes().unit(1, Bits.head(51, 1, 1, 1, 3).offsets(7, -7, 7, -7).number(5, 3).toBytes())
            .unit(2, 0xFF, 0xEE, 0xDD, 0x12, 0x34, 0x99).fed();
        used.decode();
        used.clear();
        somePicture().feedTo(used);
        IntraPicture fresh = somePicture().fed();
        CHECK.due("decode()", used.decode(), fresh.decode());
        for (int y = 0; y < 16; y++) {
            for (int x = 0; x < 16; x++) {
                CHECK.due("sample at " + x + ", " + y, used.sample(x, y), fresh.sample(x, y));
                CHECK.due("level at " + x + ", " + y, used.level(x, y), fresh.level(x, y));
            }
        }
        for (int k = 0; k < 14; k++) {
            CHECK.due("chance " + k, used.chance(k), fresh.chance(k));
            CHECK.due("parameter " + k, used.parameter(k), fresh.parameter(k));
        }
        for (int k = 0; k < 3; k++) {
            CHECK.due("took " + k, used.took(k), fresh.took(k));
        }
    }

    private static void objectsShareNothing() {
        IntraPicture one = somePicture().fed();
        one.decode();
        hasNothing("beside another", new IntraPicture());
        new Bytes().unit(1, 0x80).unit(2, 0x80).fed().decode();
        CHECK.due("the first stays", one.parameter(0), 20);
    }

    private static void asTheReadmeSays() {
        IntraPicture x = new IntraPicture();
        CHECK.due("readme, parameters", x.feed(0x8001010000L, 5), true);
        CHECK.due("readme, picture", x.feed(0x02010000L, 4), true);
        CHECK.due("readme, decode()", x.decode(), 16);
        CHECK.due("readme, sample(3, 12)", x.sample(3, 12) >= 0, true);
    }
}

/** The promises 8 to 15: what is answered where there is no picture, or no such place, context or count. */
public final class AnswersTest {
    private static final Check CHECK = new Check("AnswersTest");
    private static final int[] OUTSIDE = {-1, 16, -2, 17, -16, 32, 255, 256, Integer.MIN_VALUE, Integer.MAX_VALUE};
    private static final int[] INSIDE = {0, 1, 7, 8, 15};

    public static void main(String[] args) {
        CHECK.runAll(AnswersTest.class);
        CHECK.end();
    }

    /** A question about a place. */
    private interface Place {
        int ask(Subject x, int atX, int atY);
    }

    /** A question about a number. */
    private interface Number {
        int ask(Subject x, int k);
    }

    private static Bytes good() {
        return new Bytes().unit(1, 0x80).unit(2, 0x99, 0x44);
    }

    private static Subject decoded(Bytes bytes, boolean picture) {
        Subject x = bytes.fed();
        CHECK.due("decode() finds a picture", x.decode() > 0, picture);
        return x;
    }

    /** Objects that have no picture, each for another reason. */
    private static Subject[] withoutPicture() {
        Subject cleared = decoded(good(), true);
        cleared.clear();
        Subject notDecoded = good().fed();
        return new Subject[] {
            new Subject(), cleared, notDecoded, decoded(new Bytes().unit(1, 0x80), false), decoded(new Bytes().unit(2), false),
            decoded(good().unit(1, 0x01), false), decoded(good().unit(1), false)};
    }

    private static void noPlace(String name, int due, Place question) {
        for (Subject x : withoutPicture()) {
            for (int a : INSIDE) {
                CHECK.due("no picture: " + name + "(" + a + ", " + a + ")", question.ask(x, a, a), due);
            }
            CHECK.due("no picture: " + name + "(16, -1)", question.ask(x, 16, -1), due);
        }
        Subject x = decoded(good(), true);
        for (int outside : OUTSIDE) {
            for (int inside : INSIDE) {
                CHECK.due(name + "(" + outside + ", " + inside + ")", question.ask(x, outside, inside), due);
                CHECK.due(name + "(" + inside + ", " + outside + ")", question.ask(x, inside, outside), due);
            }
            CHECK.due(name + "(" + outside + ", " + outside + ")", question.ask(x, outside, outside), due);
        }
        for (int a : INSIDE) {
            for (int b : INSIDE) {
                CHECK.due(name + "(" + a + ", " + b + ") is there", question.ask(x, a, b) != due, true);
            }
        }
    }

    private static void noNumber(String name, int numbers, Number question) {
        for (Subject x : withoutPicture()) {
            for (int k = -1; k <= numbers; k++) {
                CHECK.due("no picture: " + name + "(" + k + ")", question.ask(x, k), -1);
            }
        }
        Subject x = decoded(good(), true);
        for (int k : new int[] {-1, -2, numbers, numbers + 1, 100, 512, Integer.MIN_VALUE, Integer.MAX_VALUE}) {
            CHECK.due(name + "(" + k + ")", question.ask(x, k), -1);
        }
        for (int k = 0; k < numbers; k++) {
            CHECK.due(name + "(" + k + ") is there", question.ask(x, k) >= 0, true);
        }
    }

    @Says("Decodes still pictures of 16 by 16 grey samples from a row of bytes: units behind start marks, parameters in "
        + "codes of different lengths, and a picture whose leaves, predictions and coefficients come out of an adaptive "
        + "arithmetic decoder; then edges are smoothed and offsets added.")
    static void aPictureHas16By16GreySamples() {
        int[] edgesAndOffsets = Bits.head(37, 1, 1, 1, 3).offsets(7, -7, 7, -7).number(6, 3).toBytes();
        for (int first = 0; first < 256; first += 51) {
            Subject x = decoded(new Bytes().unit(1, edgesAndOffsets).unit(2, first, 0x3C, 0xA5, 0x71, first), true);
            int samples = 0;
            for (int place = 0; place < 24 * 24; place++) {
                int grey = x.sample(place % 24 - 4, place / 24 - 4);
                samples += grey >= 0 && grey <= 255 ? 1 : 0;
            }
            CHECK.due("first byte " + first + ": samples", samples, 256);
        }
    }

    @Says("-1 if there is no picture or the place does not lie in it.")
    static void noSample() {
        noPlace("sample", -1, (x, a, b) -> x.sample(a, b));
    }

    @Says("`int plain(int x, int y)`: The sample at (x, y) before edges and offsets; -1 likewise.")
    static void noPlainSample() {
        noPlace("plain", -1, (x, a, b) -> x.plain(a, b));
    }

    @Says("`int predicted(int x, int y)`: What was predicted at (x, y); -1 likewise.")
    static void nothingPredicted() {
        noPlace("predicted", -1, (x, a, b) -> x.predicted(a, b));
    }

    @Says("`int level(int x, int y)`: The level at (x, y), that is at (x - X, y - Y) of its leaf; -1000 likewise.")
    static void noLevel() {
        noPlace("level", -1000, (x, a, b) -> x.level(a, b));
    }

    @Says("`int mode(int x, int y)`: The mode of the leaf at (x, y); -1 likewise.")
    static void noMode() {
        noPlace("mode", -1, (x, a, b) -> x.mode(a, b));
    }

    @Says("`int side(int x, int y)`: The side of the leaf at (x, y); -1 likewise.")
    static void noSide() {
        noPlace("side", -1, (x, a, b) -> x.side(a, b));
    }

    @Says("-1 if there is no picture or no context k.")
    static void noContext() {
        noNumber("chance", 14, (x, k) -> x.chance(k));
    }

    @Says("-1 if there is no picture or k is not 0 .. 2.")
    static void noCount() {
        noNumber("took", 3, (x, k) -> x.took(k));
    }
}

/** All promises: the class answers as the plain model does, over many rows of bytes that are always the same. */
public final class ModelTest {
    private static final Check CHECK = new Check("ModelTest");
    private static final int[] BYTES_LIKED = {0, 0, 0, 0, 0, 1, 1, 2, 3, 3, 0x80, 255};
    private long state = 20261115;

    public static void main(String[] args) {
        ModelTest test = new ModelTest();
        for (int i = 0; i < 400; i++) {
            test.wildBytes();
            test.wildPicture();
            test.writtenPictures();
        }
        for (int i = 0; i < 400; i++) {
            test.writtenPictures();
        }
        for (int i = 0; i < 60; i++) {
            test.longLife();
        }
        CHECK.end();
    }

    private int below(int bound) {
        state = state * 6364136223846793005L + 1442695040888963407L;
        return (int) ((state >>> 33) % bound);
    }

    private boolean once(int in) {
        return below(in) == 0;
    }

    private static void feedBoth(Bytes bytes, Subject x, Model model) {
        int[] all = bytes.toArray();
        for (int b : all) {
            CHECK.due("feed", x.feed(b, 1), model.feed(b, 1));
        }
    }

    private static void compareDecode(String name, Subject x, Model model) {
        CHECK.due(name + ": decode()", x.decode(), model.decode());
        compareAnswers(name, x, model);
    }

    private static void compareAnswers(String name, Subject x, Model model) {
        for (int k = -1; k <= 14; k++) {
            CHECK.due(name + ": parameter(" + k + ")", x.parameter(k), model.parameter(k));
            CHECK.due(name + ": chance(" + k + ")", x.chance(k), model.chance(k));
            CHECK.due(name + ": took(" + k + ")", x.took(k), model.took(k));
        }
        for (int a = -1; a <= 16; a++) {
            for (int b = -1; b <= 16; b++) {
                String at = "(" + a + ", " + b + ")";
                CHECK.due(name + ": mode" + at, x.mode(a, b), model.mode(a, b));
                CHECK.due(name + ": side" + at, x.side(a, b), model.side(a, b));
                CHECK.due(name + ": level" + at, x.level(a, b), model.level(a, b));
                CHECK.due(name + ": predicted" + at, x.predicted(a, b), model.predicted(a, b));
                CHECK.due(name + ": plain" + at, x.plain(a, b), model.plain(a, b));
                CHECK.due(name + ": sample" + at, x.sample(a, b), model.sample(a, b));
            }
        }
    }

    private static void compareUnits(String name, Subject x, Model model) {
        int units = model.units();
        CHECK.due(name + ": units()", x.units(), units);
        for (int i = -1; i <= units; i++) {
            int length = model.payload(i, -1);
            for (int k = -2; k <= length + 1; k++) {
                CHECK.due(name + ": payload(" + i + ", " + k + ")", x.payload(i, k), model.payload(i, k));
            }
        }
    }

    private void wildBytes() {
        Subject x = new Subject();
        Model model = new Model();
        int length = below(245);
        for (int i = 0; i < length; i++) {
            int b = once(8) ? below(256) : BYTES_LIKED[below(BYTES_LIKED.length)];
            CHECK.due("feed", x.feed(b, 1), model.feed(b, 1));
        }
        compareUnits("wild bytes", x, model);
        compareDecode("wild bytes", x, model);
    }

    private int[] wild(int length) {
        int[] row = new int[length];
        for (int i = 0; i < length; i++) {
            row[i] = below(256);
        }
        return row;
    }

    private Bits someParameters(int qp, int hide, int skips) {
        int offsetClass = below(4);
        Bits bits = Bits.head(qp, hide, skips, below(2), offsetClass);
        for (int i = 0; i < 4 && offsetClass != 0; i++) {
            bits.signed(below(15) - 7);
        }
        return offsetClass == 3 ? bits.number(below(8), 3) : bits;
    }

    private void wildPicture() {
        Subject x = new Subject();
        Model model = new Model();
        int[] parameters = someParameters(below(52), below(2), below(2)).toBytes(below(2));
        feedBoth(new Bytes().unit(1, parameters).unit(2, wild(below(100))), x, model);
        compareUnits("wild picture", x, model);
        compareDecode("wild picture", x, model);
    }

    /** Levels that are mostly 0, or mostly small, or wild. */
    private int[][] someLevels(int side, int taste) {
        int[][] levels = new int[side][side];
        for (int[] row : levels) {
            for (int i = 0; i < side; i++) {
                if (taste == 0 ? once(12) : taste == 1 ? once(4) : once(2)) {
                    int size = taste == 2 && once(3) ? 1 + below(129) : 1 + below(4);
                    row[i] = once(2) ? size : -size;
                }
            }
        }
        return levels;
    }

    private PictureWriter somePicture(boolean hide, boolean skips, int taste) {
        PictureWriter picture = new PictureWriter(hide, skips);
        for (int block = 0; block < 4; block++) {
            boolean split = block == 0 || once(2);
            picture.block(split);
            for (int i = 0; i < (split ? 4 : 1); i++) {
                boolean first = block == 0 && i == 0;
                int[][] levels = first || !once(3) ? someLevels(split ? 4 : 8, taste) : null;
                int mode = first ? 1 : below(8);
                if (once(4)) {
                    picture.longLeaf(mode, split && once(2), levels);
                } else {
                    picture.leaf(mode, split && once(2), levels);
                }
            }
        }
        return picture;
    }

    private void writtenPictures() {
        Subject x = new Subject();
        Model model = new Model();
        int hide = below(2);
        int skips = below(2);
        int taste = below(3);
        int qp = once(6) ? 51 - below(4) : below(taste == 2 ? 24 : 45);
        Bytes bytes = new Bytes().unit(1, someParameters(qp, hide, skips).toBytes());
        bytes.unit(2, somePicture(hide == 1, skips == 1, taste).toBytes());
        feedBoth(bytes, x, model);
        compareDecode("written picture", x, model);
        feedBoth(new Bytes().unit(2, wild(5)), x, model);
        compareAnswers("written picture, fed", x, model);
        compareDecode("written picture, then a wild one", x, model);
    }

    /** 512 calls of all kinds on one object. */
    private void longLife() {
        IntraPicture x = new IntraPicture();
        Model model = new Model();
        for (int call = 0; call < Subject.MOST_CALLS; call++) {
            if (once(3)) {
                changeBoth(x, model);
            } else {
                askBoth(x, model);
            }
        }
    }

    private void changeBoth(IntraPicture x, Model model) {
        switch (below(4)) {
            case 0:
                CHECK.due("feed", x.feed(0x8001010000L, 5), model.feed(0x8001010000L, 5));
                break;
            case 1:
                long picture = 0x02010000L + ((long) below(1 << 24) << 32);
                CHECK.due("feed", x.feed(picture, 7), model.feed(picture, 7));
                break;
            case 2:
                long v = (long) below(1 << 30) << 34 | below(1 << 30);
                int n = below(12) - 1;
                CHECK.due("feed", x.feed(v, n), model.feed(v, n));
                break;
            default:
                if (once(20)) {
                    x.clear();
                    model.clear();
                } else {
                    CHECK.due("decode", x.decode(), model.decode());
                }
                break;
        }
    }

    private void askBoth(IntraPicture x, Model model) {
        int a = below(20) - 2;
        int b = below(20) - 2;
        switch (below(11)) {
            case 0:
                CHECK.due("units", x.units(), model.units());
                break;
            case 1:
                CHECK.due("payload", x.payload(a, b), model.payload(a, b));
                break;
            case 2:
                CHECK.due("parameter", x.parameter(a), model.parameter(a));
                break;
            case 3:
                CHECK.due("chance", x.chance(a), model.chance(a));
                break;
            case 4:
                CHECK.due("took", x.took(a), model.took(a));
                break;
            case 5:
                CHECK.due("sample", x.sample(a, b), model.sample(a, b));
                break;
            case 6:
                CHECK.due("plain", x.plain(a, b), model.plain(a, b));
                break;
            case 7:
                CHECK.due("predicted", x.predicted(a, b), model.predicted(a, b));
                break;
            case 8:
                CHECK.due("level", x.level(a, b), model.level(a, b));
                break;
            case 9:
                CHECK.due("mode", x.mode(a, b), model.mode(a, b));
                break;
            default:
                CHECK.due("side", x.side(a, b), model.side(a, b));
                break;
        }
    }
}

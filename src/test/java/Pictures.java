import java.util.Arrays;

/** Makes objects that hold a picture, and small rows of levels. */
final class Pictures {
    private Pictures() {
    }

    static Bytes bytes(Bits parameters, PictureWriter picture) {
        return new Bytes().unit(1, parameters.toBytes()).unit(2, picture.toBytes());
    }

    /** An object that has decoded these parameters and this picture. */
    static Subject decoded(Check check, String name, Bits parameters, PictureWriter picture, int leaves) {
        Subject x = bytes(parameters, picture).fed();
        check.due(name + ": decode()", x.decode(), leaves);
        return x;
    }

    static int[][] none(int side) {
        return new int[side][side];
    }

    /** Levels that are 0 but for one. */
    static int[][] one(int side, int x, int y, int level) {
        int[][] levels = new int[side][side];
        levels[y][x] = level;
        return levels;
    }

    /** A first block of four leaves that are all 128. */
    static PictureWriter greyBlock(PictureWriter picture) {
        return picture.block(true).leaf(1, none(4)).leaf(1, null).leaf(1, null).leaf(1, null);
    }

    /** Levels that are all the same. */
    static int[][] all(int side, int level) {
        int[][] levels = new int[side][side];
        for (int[] row : levels) {
            Arrays.fill(row, level);
        }
        return levels;
    }

    /** The next blocks, each one leaf without levels and of mode 1. */
    static PictureWriter greyLeaves(PictureWriter picture, int blocks) {
        for (int i = 0; i < blocks; i++) {
            picture.block(false).leaf(1, null);
        }
        return picture;
    }

    /** The chances and the counts are those that the picture was written with. */
    static void takenAsWritten(Check check, String name, Subject x, PictureWriter picture) {
        for (int k = 0; k < 3; k++) {
            check.due(name + ": took(" + k + ")", x.took(k), picture.took(k));
        }
        for (int k = 0; k < 14; k++) {
            check.due(name + ": chance(" + k + ")", x.chance(k), picture.chance(k));
        }
    }
}

/** Writes parameters, bit by bit. */
final class Bits {
    private final StringBuilder row = new StringBuilder();

    Bits number(int number, int bits) {
        for (int i = bits - 1; i >= 0; i--) {
            row.append(number >> i & 1);
        }
        return this;
    }

    Bits code(int u) {
        int z = 31 - Integer.numberOfLeadingZeros(u + 1);
        return number(0, z).number(1, 1).number(u + 1 - (1 << z), z);
    }

    Bits signed(int number) {
        return code(number > 0 ? 2 * number - 1 : -2 * number);
    }

    Bits offsets(int... offsets) {
        for (int offset : offsets) {
            signed(offset);
        }
        return this;
    }

    /** Everything up to CLASS. */
    static Bits head(int qp, int hide, int skips, int edges, int offsetClass) {
        return new Bits().code(qp).number(hide, 1).number(skips, 1).number(edges, 1).number(offsetClass, 2);
    }

    int count() {
        return row.length();
    }

    /** The bits in bytes; what the last byte has left is filled with the bit given. */
    int[] toBytes(int filler) {
        StringBuilder full = new StringBuilder(row);
        while (full.length() % 8 != 0) {
            full.append(filler);
        }
        int[] bytes = new int[full.length() / 8];
        for (int i = 0; i < bytes.length; i++) {
            bytes[i] = Integer.parseInt(full.substring(8 * i, 8 * i + 8), 2);
        }
        return bytes;
    }

    int[] toBytes() {
        return toBytes(0);
    }
}

/** Rows of the store and exports as the document tells them, written by hand; each char of a text is a byte. */
final class Rows {
    private Rows() {}

    /** The n lowest bytes of a number, the highest of them first. */
    static String number(long x, int n) {
        StringBuilder told = new StringBuilder();
        for (int i = n - 1; i >= 0; i--) told.append((char) (x >>> 8 * i & 255));
        return told.toString();
    }

    /** Bytes with THE SUM of them behind. */
    static String summed(String bytes) {
        long s = 0;
        for (int i = 0; i < bytes.length(); i++) {
            s ^= bytes.charAt(i);
            s = (s << 53 | s >>> 11) * 0xC2B2AE3D27D4EB4FL;
        }
        return bytes + number(s, 8);
    }

    static String row(String text, String state) {
        return summed(number(211, 1) + number(text.length(), 2) + text + state);
    }

    static String export(int rows, String bytes) {
        return summed(number(rows, 2) + bytes);
    }

    /** All bytes of a house's store. */
    static String stored(PlanningHouse x) {
        StringBuilder told = new StringBuilder();
        for (int b = x.byteAt(0); b >= 0; b = x.byteAt(told.length())) told.append((char) b);
        return told.toString();
    }
}

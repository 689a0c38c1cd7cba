/** Objects and numbers that several tests need. */
final class Games {
    static final int NONE = -1, UNKNOWN = -101, OUTSIDE = -102, STATE = -103, FULL = -104;
    static final int LEAST = Integer.MIN_VALUE, MOST = Integer.MAX_VALUE;
    static final String KINDS = "jstwc";
    // What each kind tells of aa, ab, ba, bb when ab is hidden.
    static final int[][] TOLD_BESIDE_AB = {
        {10, 20, 2, 10}, {1, 2, 2, 1}, {1, 2, 0, 1}, {10, 2, 20, 10}, {1, 0, 0, 1}
    };

    private Games() {
    }

    static void write(JudgedRows x, String text) {
        for (int at = 0; at < text.length(); at++) {
            x.letter(text.charAt(at));
        }
    }

    static JudgedRows page(String text) {
        JudgedRows x = new JudgedRows();
        write(x, text);
        return x;
    }

    static JudgedRows of(String text) {
        JudgedRows x = page(text);
        if (x.game() < 2) {
            throw new IllegalArgumentException("no game: " + text);
        }
        return x;
    }

    /** What digest() makes of these numbers. */
    static long sum(int... numbers) {
        long h = 1297;
        for (int number : numbers) {
            h = 31 * h + number;
        }
        return h;
    }
}

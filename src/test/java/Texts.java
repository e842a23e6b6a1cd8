/** Feeds texts to a tape. */
final class Texts {
    private Texts() {
    }

    /** Five numbers for each twenty bytes, blanks behind the text's end. */
    static int[][] feeds(String text) {
        int[][] rows = new int[(text.length() + 19) / 20][5];
        for (int i = 0; i < rows.length * 20; i++) {
            int b = i < text.length() ? text.charAt(i) & 255 : ' ';
            rows[i / 20][i % 20 / 4] |= b << 24 - i % 4 * 8;
        }
        return rows;
    }

    static void feed(WholeFields x, String text) {
        for (int[] r : feeds(text)) {
            x.feed(r[0], r[1], r[2], r[3], r[4]);
        }
    }

    static int book(WholeFields x, String text) {
        feed(x, text);
        return x.book(text.length());
    }
}

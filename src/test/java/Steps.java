/** Steps that many tests take. */
final class Steps {
    /** Numbers that are no row, page, byte or length. */
    static final int[] FAR = {Integer.MIN_VALUE, -2147483600, -129, -101, -100, -1, 800, 1024, 2147483600, Integer.MAX_VALUE};

    private Steps() {
    }

    /** Fills the buffer anew with a byte. */
    static void buffer(HeapFile x, int count, int value) {
        x.clearBuffer();
        if (count > 0) {
            x.fill(count, value);
        }
    }

    /** Fills the buffer anew with a text. */
    static void buffer(HeapFile x, String text) {
        x.clearBuffer();
        for (int i = 0; i < text.length(); i++) {
            x.append(text.charAt(i));
        }
    }

    static int insert(HeapFile x, int count, int value) {
        buffer(x, count, value);
        return x.insert();
    }

    static int update(HeapFile x, int row, int count, int value) {
        buffer(x, count, value);
        return x.update(row);
    }

    static int run(HeapFile x, String text) {
        buffer(x, text);
        return x.run();
    }

    static int firstError(HeapFile x, String text) {
        buffer(x, text);
        return x.firstError();
    }

    /** Some bytes of a page, as a text. */
    static String bytes(HeapFile x, int page, int from, int to) {
        StringBuilder text = new StringBuilder();
        for (int i = from; i < to; i++) {
            text.append(i > from ? " " : "").append(x.pageByte(page, i));
        }
        return text.toString();
    }

    /** A file whose page 0 is full with the rows 0 (50 bytes), 1 (60 bytes) and 2 (7 bytes). */
    static HeapFile fullPage() {
        HeapFile x = new HeapFile();
        insert(x, 50, 10);
        insert(x, 60, 11);
        insert(x, 7, 12);
        return x;
    }

    /** A file whose 8 pages are full: rows 0 (60 bytes), 1 (55 bytes) and 2 (2 bytes), then rows of 60 bytes. */
    static HeapFile fullFile() {
        HeapFile x = new HeapFile();
        insert(x, 60, 20);
        insert(x, 55, 21);
        insert(x, 2, 22);
        for (int i = 0; i < 14; i++) {
            insert(x, 60, 30 + i);
        }
        return x;
    }
}

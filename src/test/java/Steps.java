/** Steps that many tests take. */
final class Steps {
    /** Numbers that are no row, page, byte or length. */
    static final int[] FAR = {Integer.MIN_VALUE, -2147483600, -129, -101, -100, -1, 800, 1024, 2147483600, Integer.MAX_VALUE};

    private Steps() {
    }

    /** Fills the buffer anew with a byte. */
    static void buffer(HeapFile x, int count, int value) {
        x.clearBuffer();
        if (count > 0) {
            x.fill(count, value);
        }
    }

    /** Fills the buffer anew with a text. */
    static void buffer(HeapFile x, String text) {
        x.clearBuffer();
        for (int i = 0; i < text.length(); i++) {
            x.append(text.charAt(i));
        }
    }

    static int insert(HeapFile x, int count, int value) {
        buffer(x, count, value);
        return x.insert();
    }

    static int update(HeapFile x, int row, int count, int value) {
        buffer(x, count, value);
        return x.update(row);
    }

    /** Fills the buffer anew with bytes that are all different: first, first + 1, and so on. */
    static void countingBuffer(HeapFile x, int count, int first) {
        x.clearBuffer();
        for (int i = 0; i < count; i++) {
            x.append(first + i);
        }
    }

    static int insertCounting(HeapFile x, int count, int first) {
        countingBuffer(x, count, first);
        return x.insert();
    }

    static int updateCounting(HeapFile x, int row, int count, int first) {
        countingBuffer(x, count, first);
        return x.update(row);
    }

    static int run(HeapFile x, String text) {
        buffer(x, text);
        return x.run();
    }

    static int firstError(HeapFile x, String text) {
        buffer(x, text);
        return x.firstError();
    }

    /** Some bytes of a page, as a text. */
    static String bytes(HeapFile x, int page, int from, int to) {
        StringBuilder text = new StringBuilder();
        for (int i = from; i < to; i++) {
            text.append(i > from ? " " : "").append(x.pageByte(page, i));
        }
        return text.toString();
    }

    /** The number of slots of a page, its lowest offset, and its slots. */
    static String slots(HeapFile x, int page) {
        return bytes(x, page, 0, 2 + 2 * x.pageByte(page, 0));
    }

    /** The bytes of the record in a slot. */
    static String recordAt(HeapFile x, int place) {
        int page = place / 100;
        int offset = x.pageByte(page, 2 + 2 * (place % 100));
        return bytes(x, page, offset, offset + x.pageByte(page, 3 + 2 * (place % 100)));
    }

    /** The bytes of a row. */
    static String rowOf(HeapFile x, int row) {
        StringBuilder text = new StringBuilder();
        int length = x.length(row);
        for (int i = 0; i < length; i++) {
            text.append(i > 0 ? " " : "").append(x.byteOf(row, i));
        }
        return text.toString();
    }

    /** The numbers from first on, as a text. */
    static String counting(int count, int first) {
        StringBuilder text = new StringBuilder();
        for (int i = 0; i < count; i++) {
            text.append(i > 0 ? " " : "").append(first + i);
        }
        return text.toString();
    }

    static HeapFile withRows(int... lengths) {
        HeapFile x = new HeapFile();
        for (int i = 0; i < lengths.length; i++) {
            insert(x, lengths[i], 10 + i);
        }
        return x;
    }

    /**
     * A file whose page 0 is full with the rows 0 (60 bytes), 1 (55 bytes) and the note of row 2; page 1 has the rows
     * 100 and 101 (10 bytes each), and at 102 the moved row 2 (3 bytes, 33 each).
     */
    static HeapFile withMoved() {
        HeapFile x = withRows(60, 55, 2, 10, 10);
        update(x, 2, 3, 33);
        return x;
    }

    /** A file whose page 0 is full with the rows 0 (50 bytes), 1 (60 bytes) and 2 (7 bytes). */
    static HeapFile fullPage() {
        HeapFile x = new HeapFile();
        insert(x, 50, 10);
        insert(x, 60, 11);
        insert(x, 7, 12);
        return x;
    }

    /** A file whose 8 pages are full: rows 0 (60 bytes), 1 (55 bytes) and 2 (2 bytes), then rows of 60 bytes. */
    static HeapFile fullFile() {
        HeapFile x = new HeapFile();
        insert(x, 60, 20);
        insert(x, 55, 21);
        insert(x, 2, 22);
        for (int i = 0; i < 14; i++) {
            insert(x, 60, 30 + i);
        }
        return x;
    }
}

/** Promises 10 to 16: rows, isRow, length, byteOf, placeOf, next, rowAt. */
public final class RowQueriesTest {
    private static final Due DUE = new Due("promises 10 to 16");

    public static void main(String[] args) {
        rowsAndMoved();
        identifiers();
        bytes();
        scan();
        DUE.end();
    }

    /** Page 0: note 0, rows 1, 2, 3 (0 bytes), 4 (1 byte); page 1: moved row 0 at 100, row 101. */
    private static HeapFile withMoved() {
        HeapFile x = Steps.fullPage();
        Steps.buffer(x, 50, 40);
        x.append(41);
        x.update(0);
        Steps.insert(x, 50, 50);
        Steps.insert(x, 0, 0);
        Steps.insert(x, 1, 60);
        return x;
    }

    private static void rowsAndMoved() {
        HeapFile x = new HeapFile();
        DUE.answers("rows() without pages", 0, x::rows);
        HeapFile y = withMoved();
        DUE.answers("rows()", 6, y::rows);
        y.delete(0);
        DUE.answers("rows() after delete(0)", 5, y::rows);
        y.undo();
        DUE.answers("rows() after undo()", 6, y::rows);
    }

    private static void identifiers() {
        HeapFile x = withMoved();
        int[] rows = {0, 1, 2, 3, 4, 101};
        for (int row : rows) {
            DUE.answers("isRow(" + row + ")", true, () -> x.isRow(row));
            DUE.answers("placeOf(" + row + ")", row == 0 ? 100 : row, () -> x.placeOf(row));
        }
        int[] none = {5, 6, 31, 99, 100, 102, 199, 200, 201, 700, 799};
        for (int row : none) {
            noRow(x, row);
        }
        for (int row : Steps.FAR) {
            noRow(x, row);
        }
        noRow(new HeapFile(), 0);
    }

    private static void noRow(HeapFile x, int row) {
        DUE.answers("isRow(" + row + ")", false, () -> x.isRow(row));
        DUE.bounds("length(" + row + ")", () -> x.length(row));
        DUE.bounds("byteOf(" + row + ", 0)", () -> x.byteOf(row, 0));
        DUE.bounds("placeOf(" + row + ")", () -> x.placeOf(row));
    }

    private static void bytes() {
        HeapFile x = withMoved();
        int[][] lengths = {{0, 51}, {1, 60}, {2, 7}, {3, 0}, {4, 1}, {101, 50}};
        for (int[] pair : lengths) {
            int row = pair[0];
            DUE.answers("length(" + row + ")", pair[1], () -> x.length(row));
            DUE.bounds("byteOf(" + row + ", " + pair[1] + ")", () -> x.byteOf(row, pair[1]));
            for (int index : Steps.FAR) {
                DUE.bounds("byteOf(" + row + ", " + index + ")", () -> x.byteOf(row, index));
            }
        }
        DUE.answers("byteOf(0, 0) of a moved row", 40, () -> x.byteOf(0, 0));
        DUE.answers("byteOf(0, 49)", 40, () -> x.byteOf(0, 49));
        DUE.answers("byteOf(0, 50)", 41, () -> x.byteOf(0, 50));
        DUE.answers("byteOf(1, 59)", 11, () -> x.byteOf(1, 59));
        DUE.answers("byteOf(4, 0)", 60, () -> x.byteOf(4, 0));
        // A row's own first bytes never count as the record's first byte.
        HeapFile y = new HeapFile();
        for (int first = 0; first < 6; first++) {
            int row = Steps.insert(y, 3, first);
            int want = first;
            DUE.answers("length(" + row + ")", 3, () -> y.length(row));
            DUE.answers("kind(" + row + ")", 1, () -> y.kind(row));
            DUE.answers("byteOf(" + row + ", 0)", want, () -> y.byteOf(row, 0));
        }
        for (int length = 0; length <= 60; length++) {
            HeapFile z = new HeapFile();
            int n = length;
            Steps.insert(z, n, 255);
            DUE.answers("length(0)", n, () -> z.length(0));
        }
    }

    private static void scan() {
        HeapFile y = withMoved();
        StringBuilder scan = new StringBuilder();
        for (int place = y.next(-1); place >= 0; place = y.next(place)) {
            scan.append(place).append(':').append(y.rowAt(place)).append(' ');
        }
        DUE.same("scan", scan.toString(), "1:1 2:2 3:3 4:4 100:0 101:101 ");
        int[][] due = {
            {Integer.MIN_VALUE, 1}, {-1, 1}, {0, 1}, {1, 2}, {2, 3}, {3, 4}, {4, 100}, {50, 100}, {99, 100}, {100, 101},
            {101, -1}, {102, -1}, {799, -1}, {800, -1}, {Integer.MAX_VALUE, -1}};
        for (int[] pair : due) {
            DUE.answers("next(" + pair[0] + ")", pair[1], () -> y.next(pair[0]));
        }
        int[][] at = {{0, -1}, {1, 1}, {2, 2}, {3, 3}, {4, 4}, {5, -1}, {100, 0}, {101, 101}, {102, -1}, {200, -1}};
        for (int[] pair : at) {
            DUE.answers("rowAt(" + pair[0] + ")", pair[1], () -> y.rowAt(pair[0]));
        }
        for (int place : Steps.FAR) {
            DUE.answers("rowAt(" + place + ")", -1, () -> y.rowAt(place));
        }
        y.delete(2);
        DUE.answers("next(1) over an empty slot", 3, () -> y.next(1));
        DUE.answers("rowAt(2) of an empty slot", -1, () -> y.rowAt(2));
        DUE.answers("next(-1) without pages", -1, () -> new HeapFile().next(-1));
    }
}

/** Promises 27 to 30: ifInserted, ifUpdated, greatestAtHome, capacity. */
public final class ForecastTest {
    private static final Due DUE = new Due("promises 27 to 30");

    public static void main(String[] args) {
        ifInserted();
        ifUpdated();
        greatestAtHome();
        capacity();
        changeNothing();
        DUE.end();
    }

    private static void ifInserted() {
        HeapFile x = new HeapFile();
        DUE.answers("ifInserted(0)", 0, () -> x.ifInserted(0));
        DUE.answers("ifInserted(60)", 0, () -> x.ifInserted(60));
        HeapFile y = Steps.fullPage();
        for (int length : new int[] {-1, 61, Integer.MIN_VALUE, Integer.MAX_VALUE}) {
            DUE.argument("ifInserted(" + length + ")", () -> y.ifInserted(length));
        }
        DUE.answers("ifInserted(0)", 100, () -> y.ifInserted(0));
        y.delete(2);
        // 10 bytes are free: 7 bytes of a row, its first byte and a slot.
        DUE.answers("ifInserted(7)", 2, () -> y.ifInserted(7));
        DUE.answers("ifInserted(8)", 100, () -> y.ifInserted(8));
        y.undo();
        y.delete(1);
        DUE.answers("ifInserted(60)", 1, () -> y.ifInserted(60));
        Steps.insert(y, 57, 1);
        // 3 bytes are free, but there is no slot.
        DUE.answers("ifInserted(0)", 100, () -> y.ifInserted(0));
        y.delete(2);
        Steps.insert(y, 5, 1);
        // 5 bytes are free.
        DUE.answers("ifInserted(0)", 3, () -> y.ifInserted(0));
        DUE.answers("ifInserted(1)", 3, () -> y.ifInserted(1));
        DUE.answers("ifInserted(2)", 3, () -> y.ifInserted(2));
        DUE.answers("ifInserted(3)", 100, () -> y.ifInserted(3));
        HeapFile z = Steps.fullFile();
        DUE.answers("ifInserted(0) in a full file", -1, () -> z.ifInserted(0));
        z.delete(701);
        DUE.answers("ifInserted(60)", 701, () -> z.ifInserted(60));
    }

    private static void ifUpdated() {
        HeapFile x = Steps.fullPage();
        for (int row : Steps.FAR) {
            DUE.bounds("ifUpdated(" + row + ", 5)", () -> x.ifUpdated(row, 5));
            DUE.bounds("ifUpdated(" + row + ", 61)", () -> x.ifUpdated(row, 61));
        }
        DUE.bounds("ifUpdated(3, -1)", () -> x.ifUpdated(3, -1));
        DUE.argument("ifUpdated(2, -1)", () -> x.ifUpdated(2, -1));
        DUE.argument("ifUpdated(2, 61)", () -> x.ifUpdated(2, 61));
        DUE.answers("ifUpdated(2, 7)", 1, () -> x.ifUpdated(2, 7));
        DUE.answers("ifUpdated(2, 0)", 1, () -> x.ifUpdated(2, 0));
        DUE.answers("ifUpdated(2, 8)", 3, () -> x.ifUpdated(2, 8));
        DUE.answers("ifUpdated(2, 60)", 3, () -> x.ifUpdated(2, 60));
        Steps.update(x, 2, 8, 1);
        // At home are 5 free bytes and the note's 3: too little for 8 bytes and the first one.
        DUE.answers("ifUpdated(2, 7)", 1, () -> x.ifUpdated(2, 7));
        DUE.answers("ifUpdated(2, 8)", 2, () -> x.ifUpdated(2, 8));
        DUE.answers("ifUpdated(2, 60)", 2, () -> x.ifUpdated(2, 60));
        Steps.insert(x, 60, 1);
        Steps.insert(x, 44, 1);
        DUE.answers("free(1)", 3, () -> x.free(1));
        DUE.answers("ifUpdated(2, 11)", 2, () -> x.ifUpdated(2, 11));
        DUE.answers("ifUpdated(2, 12)", 3, () -> x.ifUpdated(2, 12));
        HeapFile y = Steps.fullFile();
        DUE.answers("ifUpdated(2, 2)", 1, () -> y.ifUpdated(2, 2));
        DUE.answers("ifUpdated(2, 3)", -1, () -> y.ifUpdated(2, 3));
        y.delete(701);
        DUE.answers("ifUpdated(2, 3)", 3, () -> y.ifUpdated(2, 3));
        y.undo();
        // Room for a record at home is none for a moved row: 60 bytes and 3 more, or a slot more.
        Steps.update(y, 701, 57, 1);
        DUE.answers("ifUpdated(2, 3)", -1, () -> y.ifUpdated(2, 3));
    }

    private static void greatestAtHome() {
        HeapFile x = Steps.fullPage();
        for (int row : Steps.FAR) {
            DUE.bounds("greatestAtHome(" + row + ")", () -> x.greatestAtHome(row));
        }
        DUE.answers("greatestAtHome(0)", 50, () -> x.greatestAtHome(0));
        DUE.answers("greatestAtHome(1)", 60, () -> x.greatestAtHome(1));
        DUE.answers("greatestAtHome(2)", 7, () -> x.greatestAtHome(2));
        Steps.update(x, 0, 52, 1);
        // 48 free bytes and the note's 3 make a record of 50 bytes.
        DUE.answers("greatestAtHome(0) of a moved row", 50, () -> x.greatestAtHome(0));
        DUE.answers("greatestAtHome(2)", 55, () -> x.greatestAtHome(2));
        DUE.bounds("greatestAtHome(100) of a moved row's place", () -> x.greatestAtHome(100));
        HeapFile y = Steps.fullFile();
        Steps.update(y, 2, 0, 0);
        DUE.answers("greatestAtHome(2) of a row of 0 bytes", 2, () -> y.greatestAtHome(2));
        Steps.update(y, 2, 1, 0);
        DUE.answers("greatestAtHome(2) of a row of 1 byte", 2, () -> y.greatestAtHome(2));
        HeapFile z = new HeapFile();
        Steps.insert(z, 0, 0);
        DUE.answers("greatestAtHome(0) in an empty page", 60, () -> z.greatestAtHome(0));
    }

    private static void capacity() {
        HeapFile x = new HeapFile();
        for (int length : new int[] {-1, 61, Integer.MIN_VALUE, Integer.MAX_VALUE}) {
            DUE.argument("capacity(" + length + ")", () -> x.capacity(length));
        }
        int[][] due = {{0, 200}, {1, 200}, {2, 200}, {3, 168}, {4, 144}, {10, 72}, {29, 24}, {39, 24}, {40, 16}, {60, 16}};
        for (int[] pair : due) {
            DUE.answers("capacity(" + pair[0] + ")", pair[1], () -> x.capacity(pair[0]));
        }
        HeapFile z = new HeapFile();
        Steps.insert(z, 0, 0);
        // 121 bytes are free in page 0: two rows of 58 bytes would take 122.
        DUE.answers("capacity(57)", 16, () -> z.capacity(57));
        DUE.answers("capacity(58)", 15, () -> z.capacity(58));
        HeapFile y = Steps.fullFile();
        DUE.answers("capacity(0) of a full file", 0, () -> y.capacity(0));
        y.delete(0);
        // 61 bytes and one empty slot: 3, and then 11 times 3 + 2 of the 58 others.
        DUE.answers("capacity(0)", 12, () -> y.capacity(0));
        DUE.answers("capacity(60)", 1, () -> y.capacity(60));
        y.delete(1);
        // 117 bytes and two empty slots: 61 of them, and the 56 others are too few.
        DUE.answers("capacity(60)", 1, () -> y.capacity(60));
        DUE.answers("capacity(55)", 2, () -> y.capacity(55));
        DUE.answers("capacity(2)", 24, () -> y.capacity(2));
        y.delete(2);
        DUE.answers("capacity(60)", 2, () -> y.capacity(60));
    }

    private static void changeNothing() {
        HeapFile x = Steps.fullPage();
        Steps.buffer(x, 9, 9);
        long before = x.digest();
        x.ifInserted(60);
        x.ifUpdated(0, 60);
        x.greatestAtHome(1);
        x.capacity(3);
        DUE.answers("digest()", before, x::digest);
        DUE.answers("savedStates()", 3, x::savedStates);
        DUE.answers("clearBuffer()", 9, x::clearBuffer);
    }
}

/**
 * "A call that throws an exception changes nothing. If more than one exception applies to a call, the one that is
 * listed first in its throws clause is thrown." Each call that the document refuses, in several files.
 */
public final class RefusedCallsTest {
    private static final Due DUE = new Due("refused calls");

    private static final String ARGUMENT = "IllegalArgumentException";
    private static final String STATE = "IllegalStateException";
    private static final String BOUNDS = "IndexOutOfBoundsException";

    private static final int[] NO_BYTES = {Integer.MIN_VALUE, -256, -1, 256, 257, 511, 512, Integer.MAX_VALUE};
    private static final int[] NO_COUNTS = {Integer.MIN_VALUE, -60, -1, 0, 61, 120, Integer.MAX_VALUE};
    private static final int[] NO_LENGTHS = {Integer.MIN_VALUE, -1, 61, 62, 255, Integer.MAX_VALUE};

    public static void main(String[] args) {
        append();
        fill();
        insert();
        updateWithoutRow();
        updateWithoutRoom();
        deleteWithoutRow();
        compactWithoutPage();
        queriesAboutRows();
        queriesAboutPages();
        forecasts();
        run();
        undo();
        refusedOrders();
        DUE.end();
    }

    private static HeapFile fileWithBuffer(HeapFile x, int length) {
        Steps.countingBuffer(x, length, 100);
        return x;
    }

    /** Files of all sorts, each with a buffer of a length. */
    private static Twins.Recipe[] files(int length) {
        return new Twins.Recipe[] {
            () -> fileWithBuffer(new HeapFile(), length),
            () -> fileWithBuffer(emptiedPage(), length),
            () -> fileWithBuffer(Steps.fullPage(), length),
            () -> fileWithBuffer(withHoles(), length),
            () -> fileWithBuffer(fullFileWithMovedRow(), length)};
    }

    private static HeapFile emptiedPage() {
        HeapFile x = Steps.withRows(60);
        x.delete(0);
        return x;
    }

    /** An empty slot (0), a moved row (2 at 102), and a state less than 6. */
    private static HeapFile withHoles() {
        HeapFile x = Steps.withMoved();
        x.delete(0);
        x.compact(1);
        x.undo();
        return x;
    }

    /** No page has room; row 2 is moved to 700, where it may not grow; 5 states are saved. */
    private static HeapFile fullFileWithMovedRow() {
        HeapFile x = Steps.withRows(60, 55, 2, 60, 60, 60, 60, 60, 60, 60, 60, 60, 60, 60, 60);
        Steps.update(x, 2, 3, 1);
        Steps.insert(x, 60, 1);
        Steps.insert(x, 52, 1);
        x.delete(702);
        x.undo();
        return x;
    }

    private static void append() {
        DUE.sentence("append: IllegalArgumentException if value is out of range, IllegalStateException if the buffer contains "
            + "60 bytes");
        for (int value : NO_BYTES) {
            for (int length : new int[] {0, 1, 59, 60}) {
                for (Twins.Recipe file : files(length)) {
                    Twins.refused(DUE, "append(" + value + ") to " + length, file, ARGUMENT, x -> x.append(value));
                }
            }
        }
        for (int value : new int[] {0, 1, 255}) {
            for (Twins.Recipe file : files(60)) {
                Twins.refused(DUE, "append(" + value + ") to 60", file, STATE, x -> x.append(value));
            }
            Twins.Recipe almost = () -> fileWithBuffer(new HeapFile(), 59);
            DUE.answers("append(" + value + ") to 59", 60, () -> almost.made().append(value));
        }
    }

    private static void fill() {
        DUE.sentence("fill: IllegalArgumentException if count or value is out of range, IllegalStateException if the buffer "
            + "would contain more than 60 bytes");
        for (int length : new int[] {0, 30, 60}) {
            Twins.Recipe file = () -> fileWithBuffer(Steps.fullPage(), length);
            for (int count : NO_COUNTS) {
                for (int value : new int[] {-1, 0, 255, 256}) {
                    Twins.refused(DUE, "fill(" + count + ", " + value + ") to " + length, file, ARGUMENT,
                        x -> x.fill(count, value));
                }
            }
            for (int value : NO_BYTES) {
                for (int count : new int[] {1, 30, 31, 60}) {
                    Twins.refused(DUE, "fill(" + count + ", " + value + ") to " + length, file, ARGUMENT,
                        x -> x.fill(count, value));
                }
            }
        }
        int[][] tooMuch = {{1, 60}, {2, 59}, {30, 31}, {31, 30}, {59, 2}, {60, 1}, {1, 60}, {60, 60}};
        for (int[] pair : tooMuch) {
            for (Twins.Recipe file : files(pair[0])) {
                Twins.refused(DUE, "fill(" + pair[1] + ", 0) to " + pair[0], file, STATE, x -> x.fill(pair[1], 0));
            }
        }
    }

    private static void insert() {
        DUE.sentence("insert: IllegalStateException if no page is found");
        for (int length : new int[] {0, 1, 2, 3, 59, 60}) {
            Twins.Recipe full = () -> fileWithBuffer(fullFileWithMovedRow(), length);
            Twins.refused(DUE, "insert() of " + length, full, STATE, HeapFile::insert);
        }
        DUE.answers("insert() of 55 where 56 bytes are free", 1, () -> fileWithBuffer(withRoomFor55(), 55).insert());
        for (int length : new int[] {56, 57, 60}) {
            Twins.refused(DUE, "insert() of " + length + " where 56 bytes are free",
                () -> fileWithBuffer(withRoomFor55(), length), STATE, HeapFile::insert);
        }
    }

    /** Slot 1 is empty, and 56 bytes of page 0 are free; all other pages are full. */
    private static HeapFile withRoomFor55() {
        HeapFile x = Steps.fullFile();
        x.delete(1);
        return x;
    }

    private static void updateWithoutRow() {
        DUE.sentence("update: IndexOutOfBoundsException if there is no such row, IllegalStateException if the row cannot be "
            + "changed");
        for (Twins.Recipe file : files(60)) {
            for (int row : Steps.FAR) {
                Twins.refused(DUE, "update(" + row + ")", file, BOUNDS, x -> x.update(row));
            }
            for (int row : new int[] {3, 25, 30, 31, 99, 102, 103, 199, 703, 799}) {
                Twins.refused(DUE, "update(" + row + ")", file, BOUNDS, x -> x.update(row));
            }
        }
        Twins.Recipe holes = () -> fileWithBuffer(withHoles(), 5);
        Twins.refused(DUE, "update(0) of an empty slot", holes, BOUNDS, x -> x.update(0));
        Twins.refused(DUE, "update(102) of a moved row's place", holes, BOUNDS, x -> x.update(102));
        // In the full file no row could be changed to 60 bytes either: what is listed first is thrown.
        Twins.Recipe full = () -> fileWithBuffer(fullFileWithMovedRow(), 60);
        Twins.refused(DUE, "update(700) of a moved row's place, in a full file", full, BOUNDS, x -> x.update(700));
        Twins.refused(DUE, "update(800) in a full file", full, BOUNDS, x -> x.update(800));
    }

    private static void updateWithoutRoom() {
        DUE.sentence("update: IllegalStateException if the row cannot be changed");
        for (int length : new int[] {56, 57, 60}) {
            Twins.Recipe full = () -> fileWithBuffer(fullFileWithMovedRow(), length);
            Twins.refused(DUE, "update(1) with " + length, full, STATE, x -> x.update(1));
        }
        for (int length : new int[] {4, 5, 60}) {
            Twins.Recipe full = () -> fileWithBuffer(fullFileWithMovedRow(), length);
            Twins.refused(DUE, "update(2), moved, with " + length, full, STATE, x -> x.update(2));
        }
        DUE.answers("update(1) with 55", 1, () -> fileWithBuffer(fullFileWithMovedRow(), 55).update(1));
        DUE.answers("update(2) with 3", 2, () -> fileWithBuffer(fullFileWithMovedRow(), 3).update(2));
        DUE.answers("update(2) with 2", 1, () -> fileWithBuffer(fullFileWithMovedRow(), 2).update(2));
    }

    private static void deleteWithoutRow() {
        DUE.sentence("delete: IndexOutOfBoundsException if there is no such row");
        for (Twins.Recipe file : files(3)) {
            for (int row : Steps.FAR) {
                Twins.refused(DUE, "delete(" + row + ")", file, BOUNDS, x -> x.delete(row));
            }
            for (int row : new int[] {3, 25, 30, 31, 99, 102, 103, 199, 703, 799}) {
                Twins.refused(DUE, "delete(" + row + ")", file, BOUNDS, x -> x.delete(row));
            }
        }
        Twins.Recipe holes = () -> fileWithBuffer(withHoles(), 5);
        Twins.refused(DUE, "delete(0) of an empty slot", holes, BOUNDS, x -> x.delete(0));
        Twins.refused(DUE, "delete(102) of a moved row's place", holes, BOUNDS, x -> x.delete(102));
        Twins.Recipe full = () -> fileWithBuffer(fullFileWithMovedRow(), 5);
        Twins.refused(DUE, "delete(700) of a moved row's place", full, BOUNDS, x -> x.delete(700));
    }

    private static void compactWithoutPage() {
        DUE.sentence("compact: IndexOutOfBoundsException if there is no such page");
        int[] pages = {0, 1, 1, 2, 8};
        Twins.Recipe[] files = files(3);
        for (int i = 0; i < files.length; i++) {
            for (int page : new int[] {Integer.MIN_VALUE, -8, -1, pages[i], pages[i] + 1, 100, Integer.MAX_VALUE}) {
                Twins.refused(DUE, "compact(" + page + ")", files[i], BOUNDS, x -> x.compact(page));
            }
        }
    }

    private static void queriesAboutRows() {
        DUE.sentence("length, byteOf, placeOf: IndexOutOfBoundsException if there is no such row or byte");
        for (Twins.Recipe file : files(7)) {
            for (int row : new int[] {Integer.MIN_VALUE, -1, 3, 25, 99, 102, 103, 703, 799, 800, Integer.MAX_VALUE}) {
                Twins.refused(DUE, "length(" + row + ")", file, BOUNDS, x -> x.length(row));
                Twins.refused(DUE, "placeOf(" + row + ")", file, BOUNDS, x -> x.placeOf(row));
                for (int index : new int[] {Integer.MIN_VALUE, -1, 0, 60, Integer.MAX_VALUE}) {
                    Twins.refused(DUE, "byteOf(" + row + ", " + index + ")", file, BOUNDS, x -> x.byteOf(row, index));
                }
            }
        }
        for (int index : new int[] {Integer.MIN_VALUE, -3, -1, 3, 4, 60, Integer.MAX_VALUE}) {
            Twins.refused(DUE, "byteOf(2, " + index + ") of 3 bytes, moved", RefusedCallsTest::withHoles, BOUNDS,
                x -> x.byteOf(2, index));
        }
        Twins.answered(DUE, "byteOf(2, 2) of 3 bytes, moved", RefusedCallsTest::withHoles, 33, x -> x.byteOf(2, 2));
    }

    private static void queriesAboutPages() {
        DUE.sentence("pageByte, free, gap: IndexOutOfBoundsException if there is no such page or byte");
        int[] pages = {0, 1, 1, 2, 8};
        Twins.Recipe[] files = files(7);
        for (int i = 0; i < files.length; i++) {
            Twins.Recipe file = files[i];
            for (int page : new int[] {Integer.MIN_VALUE, -1, pages[i], pages[i] + 1, Integer.MAX_VALUE}) {
                Twins.refused(DUE, "free(" + page + ")", file, BOUNDS, x -> x.free(page));
                Twins.refused(DUE, "gap(" + page + ")", file, BOUNDS, x -> x.gap(page));
                for (int offset : new int[] {-1, 0, 127, 128}) {
                    Twins.refused(DUE, "pageByte(" + page + ", " + offset + ")", file, BOUNDS, x -> x.pageByte(page, offset));
                }
            }
            int last = pages[i] - 1;
            for (int offset : new int[] {Integer.MIN_VALUE, -128, -1, 128, 129, 256, Integer.MAX_VALUE}) {
                Twins.refused(DUE, "pageByte(" + last + ", " + offset + ")", file, BOUNDS, x -> x.pageByte(last, offset));
            }
        }
    }

    private static void forecasts() {
        DUE.sentence("ifInserted, capacity: IllegalArgumentException if length is out of range; ifUpdated: "
            + "IndexOutOfBoundsException if there is no such row, IllegalArgumentException if length is out of range");
        for (Twins.Recipe file : files(7)) {
            for (int length : NO_LENGTHS) {
                Twins.refused(DUE, "ifInserted(" + length + ")", file, ARGUMENT, x -> x.ifInserted(length));
                Twins.refused(DUE, "capacity(" + length + ")", file, ARGUMENT, x -> x.capacity(length));
                Twins.refused(DUE, "ifUpdated(3, " + length + ") with both wrong", file, BOUNDS, x -> x.ifUpdated(3, length));
                Twins.refused(DUE, "ifUpdated(-1, " + length + ") with both wrong", file, BOUNDS, x -> x.ifUpdated(-1, length));
            }
            for (int length : new int[] {0, 60}) {
                Twins.refused(DUE, "ifUpdated(3, " + length + ")", file, BOUNDS, x -> x.ifUpdated(3, length));
                Twins.refused(DUE, "ifUpdated(800, " + length + ")", file, BOUNDS, x -> x.ifUpdated(800, length));
            }
            for (int row : new int[] {Integer.MIN_VALUE, -1, 3, 102, 800, Integer.MAX_VALUE}) {
                Twins.refused(DUE, "greatestAtHome(" + row + ")", file, BOUNDS, x -> x.greatestAtHome(row));
            }
        }
        for (int length : NO_LENGTHS) {
            Twins.refused(DUE, "ifUpdated(1, " + length + ")", RefusedCallsTest::withHoles, ARGUMENT, x -> x.ifUpdated(1, length));
            Twins.refused(DUE, "ifUpdated(2, " + length + ")", RefusedCallsTest::withHoles, ARGUMENT, x -> x.ifUpdated(2, length));
            Twins.refused(DUE, "ifUpdated(102, " + length + ")", RefusedCallsTest::withHoles, BOUNDS,
                x -> x.ifUpdated(102, length));
        }
        DUE.sentence("forecasts; they change nothing");
        Twins.Recipe holes = () -> fileWithBuffer(withHoles(), 7);
        Twins.answered(DUE, "ifInserted(60)", holes, 0, x -> x.ifInserted(60));
        Twins.answered(DUE, "ifInserted(0)", holes, 0, x -> x.ifInserted(0));
        Twins.answered(DUE, "ifUpdated(2, 60)", holes, 1, x -> x.ifUpdated(2, 60));
        Twins.answered(DUE, "ifUpdated(2, 0)", holes, 1, x -> x.ifUpdated(2, 0));
        Twins.answered(DUE, "greatestAtHome(2)", holes, 60, x -> x.greatestAtHome(2));
        Twins.answered(DUE, "capacity(60)", holes, 14, x -> x.capacity(60));
        Twins.Recipe moves = () -> fileWithBuffer(Steps.fullPage(), 7);
        Twins.answered(DUE, "ifInserted(60) of a new page", moves, 100, x -> x.ifInserted(60));
        Twins.answered(DUE, "ifUpdated(2, 60) to a new page", moves, 3, x -> x.ifUpdated(2, 60));
        Twins.answered(DUE, "capacity(0)", moves, 175, x -> x.capacity(0));
        Twins.Recipe full = () -> fileWithBuffer(fullFileWithMovedRow(), 7);
        Twins.answered(DUE, "ifInserted(0)", full, -1, x -> x.ifInserted(0));
        Twins.answered(DUE, "ifUpdated(2, 60)", full, -1, x -> x.ifUpdated(2, 60));
        Twins.answered(DUE, "capacity(0)", full, 0, x -> x.capacity(0));
    }

    private static HeapFile withText(HeapFile x, String text) {
        Steps.buffer(x, text);
        return x;
    }

    private static void run() {
        DUE.sentence("run: IllegalArgumentException if the buffer is not a complete order text (the buffer stays)");
        String[] texts = {"", "+", "=", "-", "=0", "=0:", "+a;", "^;", "-1;", "=1:a;", ";", ";^", "^^", "+A", "-00", "-800",
            "=800:a", "+a;-1;x", "-1;-2;=", "^;^;^;^;+", "+abcdefghijklmnopqrstuvwxyzabcdefghijklmno"};
        for (String text : texts) {
            Twins.refused(DUE, "run() of " + text, () -> withText(new HeapFile(), text), ARGUMENT, HeapFile::run);
            Twins.refused(DUE, "run() of " + text, () -> withText(Steps.fullPage(), text), ARGUMENT, HeapFile::run);
            Twins.refused(DUE, "run() of " + text, () -> withText(fullFileWithMovedRow(), text), ARGUMENT, HeapFile::run);
        }
        for (Twins.Recipe file : files(60)) {
            Twins.refused(DUE, "run() of 60 bytes that are none", file, ARGUMENT, HeapFile::run);
            Twins.answered(DUE, "firstError() of 60 bytes that are none", file, 0, HeapFile::firstError);
        }
    }

    private static void undo() {
        DUE.sentence("undo: IllegalStateException if no state is saved");
        for (int length : new int[] {0, 60}) {
            Twins.refused(DUE, "undo() of a new file", () -> fileWithBuffer(new HeapFile(), length), STATE, HeapFile::undo);
            Twins.refused(DUE, "undo() after all states", () -> fileWithBuffer(undone(Steps.fullPage()), length), STATE,
                HeapFile::undo);
            Twins.refused(DUE, "undo() of a discarded state", () -> fileWithBuffer(undone(Steps.fullFile()), length), STATE,
                HeapFile::undo);
        }
    }

    private static HeapFile undone(HeapFile x) {
        while (x.savedStates() > 0) {
            x.undo();
        }
        return x;
    }

    /** An order that cannot be executed changes nothing; the buffer is emptied, and a state is saved. */
    private static void refusedOrders() {
        DUE.sentence("up to the first one whose method would throw an exception");
        for (String text : new String[] {"+a", "=2:abcd", "=3:a", "-3", "=700:a", "-700", "-3;-0;-1"}) {
            HeapFile x = withText(fullFileWithMovedRow(), text);
            long before = x.digest();
            DUE.answers("run() of " + text, 0, x::run);
            DUE.answers("digest() after " + text, before, x::digest);
            DUE.answers("savedStates() after " + text, 6, x::savedStates);
            DUE.answers("clearBuffer() after " + text, 0, x::clearBuffer);
            DUE.answers("undo() after " + text, 5, x::undo);
            DUE.answers("digest() after undo()", before, x::digest);
        }
    }
}

/** Promises 5 to 9: insert, update, delete, bringHome, compact. */
public final class RowsTest {
    private static final Due DUE = new Due("promises 5 to 9");

    public static void main(String[] args) {
        insertWritesRecords();
        insertFindsPages();
        insertUsesEmptySlots();
        insertCompactsForANewSlot();
        insertFails();
        updateAtHome();
        updateMoves();
        updateMovesToAnotherSlot();
        updateFails();
        deletes();
        deletesMoved();
        bringsHome();
        bringsHomeIntoTheLastByte();
        bringsHomeInOrder();
        compacts();
        DUE.end();
    }

    private static void insertWritesRecords() {
        HeapFile x = new HeapFile();
        DUE.answers("insert() of 0 bytes", 0, () -> Steps.insert(x, 0, 0));
        DUE.answers("insert() of 1 byte", 1, () -> Steps.insert(x, 1, 200));
        DUE.answers("insert() of 2 bytes", 2, () -> Steps.insert(x, 2, 7));
        DUE.answers("insert() of 3 bytes", 3, () -> Steps.insert(x, 3, 8));
        DUE.answers("slots", "4 115 125 3 122 3 119 3 115 4 0", () -> Steps.bytes(x, 0, 0, 11));
        DUE.answers("records", "0 1 8 8 8 1 7 7 5 200 0 4 0 0", () -> Steps.bytes(x, 0, 114, 128));
        DUE.answers("clearBuffer()", 0, x::clearBuffer);
        DUE.answers("savedStates()", 4, x::savedStates);
    }

    private static void insertFindsPages() {
        HeapFile x = Steps.fullPage();
        DUE.answers("free(0)", 0, () -> x.free(0));
        DUE.answers("insert() in a new page", 100, () -> Steps.insert(x, 0, 0));
        DUE.answers("insert() of 60 bytes", 101, () -> Steps.insert(x, 60, 1));
        DUE.answers("insert() of 60 bytes more", 200, () -> Steps.insert(x, 60, 1));
        // Page 1 has 126 - 4 - 3 - 61 = 58 free bytes: 55 bytes take 56 and a slot.
        DUE.answers("ifInserted(56)", 201, () -> x.ifInserted(56));
        DUE.answers("insert() of 55 bytes", 102, () -> Steps.insert(x, 55, 1));
        DUE.answers("free(1)", 0, () -> x.free(1));
        DUE.answers("pages()", 3, x::pages);
    }

    private static void insertUsesEmptySlots() {
        HeapFile x = Steps.fullPage();
        x.delete(1);
        DUE.answers("free(0)", 61, () -> x.free(0));
        // An empty slot needs no bytes for itself.
        DUE.answers("insert() of 60 bytes in an empty slot", 1, () -> Steps.insert(x, 60, 5));
        DUE.answers("free(0) after it", 0, () -> x.free(0));
        x.delete(0);
        x.delete(1);
        DUE.answers("pageByte(0, 0)", 3, () -> x.pageByte(0, 0));
        DUE.answers("insert() in the lowest empty slot", 0, () -> Steps.insert(x, 1, 5));
        DUE.answers("insert() in the next one", 1, () -> Steps.insert(x, 1, 5));
        DUE.answers("insert() in a new one", 3, () -> Steps.insert(x, 1, 5));
    }

    /** A new slot lies on the lowest record, which therefore has to move first. */
    private static void insertCompactsForANewSlot() {
        HeapFile x = new HeapFile();
        Steps.insert(x, 59, 1);
        Steps.insert(x, 60, 2);
        // Free: 126 - 4 - 60 - 61 = 1, gap 1. A shorter row 0 leaves its free bytes above row 1.
        DUE.answers("gap(0)", 1, () -> x.gap(0));
        DUE.answers("update(0)", 1, () -> Steps.update(x, 0, 55, 3));
        DUE.answers("compactions()", 1, x::compactions);
        DUE.answers("slots", "2 11 11 56 67 61 0", () -> Steps.bytes(x, 0, 0, 7));
        Steps.buffer(x, 0, 0);
        DUE.answers("insert()", 2, x::insert);
        DUE.answers("compactions()", 1, x::compactions);
        DUE.answers("slots", "3 8 11 56 67 61 8 3 4 0 0 1 3", () -> Steps.bytes(x, 0, 0, 13));

        HeapFile y = new HeapFile();
        Steps.insert(y, 59, 1);
        Steps.insert(y, 57, 2);
        // Row 0 gets 3 of the gap's 4 bytes, and its 60 old ones become a hole above row 1.
        Steps.update(y, 0, 0, 0);
        DUE.answers("slots", "2 7 7 3 10 58 0 4", () -> Steps.bytes(y, 0, 0, 8));
        DUE.answers("gap(0)", 1, () -> y.gap(0));
        DUE.answers("free(0)", 61, () -> y.free(0));
        DUE.answers("compactions()", 0, y::compactions);
        DUE.answers("insert()", 2, () -> Steps.insert(y, 58, 9));
        DUE.answers("compactions()", 1, y::compactions);
        DUE.answers("slots", "3 8 125 3 67 58 8 59 1 9", () -> Steps.bytes(y, 0, 0, 10));
        DUE.answers("records", "9 9 1 2 2", () -> Steps.bytes(y, 0, 65, 70));
        DUE.answers("record 0", "2 2 4 0 0", () -> Steps.bytes(y, 0, 123, 128));
        DUE.answers("gap(0)", 0, () -> y.gap(0));
    }

    private static void insertFails() {
        HeapFile x = Steps.fullFile();
        Steps.buffer(x, 0, 0);
        long before = x.digest();
        DUE.state("insert() in a full file", x::insert);
        x.fill(3, 9);
        DUE.state("insert() in a full file", x::insert);
        DUE.answers("digest()", before, x::digest);
        DUE.answers("savedStates()", 6, x::savedStates);
        DUE.answers("clearBuffer()", 3, x::clearBuffer);
        DUE.answers("pages()", 8, x::pages);
    }

    private static void updateAtHome() {
        HeapFile x = Steps.fullPage();
        DUE.answers("update(2) with as many bytes", 1, () -> Steps.update(x, 2, 7, 99));
        DUE.answers("clearBuffer()", 0, x::clearBuffer);
        DUE.answers("byteOf(2, 6)", 99, () -> x.byteOf(2, 6));
        DUE.answers("compactions()", 0, x::compactions);
        DUE.answers("update(2) with 0 bytes", 1, () -> Steps.update(x, 2, 0, 0));
        DUE.answers("slots", "3 13 77 51 16 61 13 3 0 0 0 0 0 4 0 0 1", () -> Steps.bytes(x, 0, 0, 17));
        DUE.answers("update(2) with 1 byte", 1, () -> Steps.update(x, 2, 1, 42));
        DUE.answers("record", "5 42 0 1", () -> Steps.bytes(x, 0, 13, 17));
        // The first record has no gap behind it, so the page is compacted: rows 1 and 2 first, then row 0.
        DUE.answers("update(0) with 55 bytes", 1, () -> Steps.update(x, 0, 55, 1));
        DUE.answers("compactions()", 1, x::compactions);
        DUE.answers("slots", "3 8 8 56 67 61 64 3 1 1", () -> Steps.bytes(x, 0, 0, 10));
        DUE.answers("moves()", 0, x::moves);
        DUE.answers("returns()", 0, x::returns);
    }

    private static void updateMoves() {
        HeapFile x = Steps.fullPage();
        DUE.answers("update(0) with 51 bytes", 3, () -> Steps.update(x, 0, 51, 10));
        DUE.answers("moves()", 1, x::moves);
        DUE.answers("notes()", 1, x::notes);
        // To leave the note of 3 bytes, page 0 had to be compacted: its gap was 0.
        DUE.answers("compactions()", 1, x::compactions);
        DUE.answers("slots of 0", "3 56 56 3 67 61 59 8 0", () -> Steps.bytes(x, 0, 0, 9));
        DUE.answers("note", "0 2 1 0 1 12", () -> Steps.bytes(x, 0, 55, 61));
        DUE.answers("slots of 1", "1 74 74 54 0", () -> Steps.bytes(x, 1, 0, 5));
        DUE.answers("moved row", "0 3 0 0 10 10", () -> Steps.bytes(x, 1, 73, 79));
        DUE.answers("placeOf(0)", 100, () -> x.placeOf(0));

        DUE.answers("update(0) with 60 bytes", 2, () -> Steps.update(x, 0, 60, 13));
        DUE.answers("slots of 1", "1 65 65 63 0", () -> Steps.bytes(x, 1, 0, 5));
        DUE.answers("moves()", 1, x::moves);

        DUE.answers("insert()", 3, () -> Steps.insert(x, 45, 14));
        DUE.answers("insert()", 101, () -> Steps.insert(x, 57, 15));
        DUE.answers("update(0) with 60 bytes again", 2, () -> Steps.update(x, 0, 60, 16));
        DUE.answers("compactions()", 2, x::compactions);
        DUE.answers("slots of 1", "2 7 7 63 70 58 0 3 0 0 16", () -> Steps.bytes(x, 1, 0, 11));
        DUE.answers("update(0) with 20 bytes", 2, () -> Steps.update(x, 0, 20, 17));
        DUE.answers("insert()", 102, () -> Steps.insert(x, 38, 18));
        DUE.answers("free(1)", 0, () -> x.free(1));

        DUE.answers("update(0) with 21 bytes", 3, () -> Steps.update(x, 0, 21, 19));
        DUE.answers("moves()", 2, x::moves);
        DUE.answers("placeOf(0)", 200, () -> x.placeOf(0));
        DUE.answers("the note stays", "2 2 0", () -> Steps.bytes(x, 0, 56, 59));
        DUE.answers("slot of the old moved row", "3 8 0 0 70 58 8 39", () -> Steps.bytes(x, 1, 0, 8));
        DUE.answers("its bytes", "0 0 0 0 0", () -> Steps.bytes(x, 1, 47, 52));
        DUE.answers("compactions()", 2, x::compactions);

        x.delete(3);
        DUE.answers("update(0) with 51 bytes", 2, () -> Steps.update(x, 0, 51, 19));
        DUE.answers("update(0) with 50 bytes", 1, () -> Steps.update(x, 0, 50, 20));
        DUE.answers("returns()", 1, x::returns);
        DUE.answers("moves()", 2, x::moves);
        DUE.answers("notes()", 0, x::notes);
        DUE.answers("placeOf(0)", 0, () -> x.placeOf(0));
        DUE.answers("page 2", "0 128 0 0", () -> Steps.bytes(x, 2, 0, 4));
        DUE.answers("pages()", 3, x::pages);
        DUE.answers("free(0)", 0, () -> x.free(0));
    }

    private static void updateMovesToAnotherSlot() {
        HeapFile x = Steps.fullPage();
        Steps.update(x, 0, 51, 1);
        int[][] rows = {{45, 3}, {60, 101}, {60, 200}, {4, 102}};
        for (int[] row : rows) {
            DUE.answers("insert() of " + row[0], row[1], () -> Steps.insert(x, row[0], 2));
        }
        DUE.answers("update(0) with 52 bytes", 3, () -> Steps.update(x, 0, 52, 9));
        DUE.answers("the note", "2 2 1", () -> Steps.bytes(x, 0, 56, 59));
        DUE.answers("placeOf(0)", 201, () -> x.placeOf(0));
        DUE.answers("rowAt(201)", 0, () -> x.rowAt(201));
        DUE.answers("length(0)", 52, () -> x.length(0));
        DUE.answers("byteOf(0, 51)", 9, () -> x.byteOf(0, 51));
    }

    private static void updateFails() {
        HeapFile x = Steps.fullFile();
        for (int row : Steps.FAR) {
            DUE.bounds("update(" + row + ")", () -> x.update(row));
        }
        DUE.bounds("update(3)", () -> x.update(3));
        Steps.buffer(x, 3, 9);
        long before = x.digest();
        DUE.state("update(2) with 3 bytes", () -> x.update(2));
        DUE.bounds("update(3)", () -> x.update(3));
        DUE.answers("digest()", before, x::digest);
        DUE.answers("clearBuffer()", 3, x::clearBuffer);
        DUE.answers("update(2) with 2 bytes", 1, () -> Steps.update(x, 2, 2, 9));
        DUE.answers("undo() of it", 5, x::undo);
        DUE.answers("undo() of the last insert()", 4, x::undo);
        DUE.answers("rows()", 16, x::rows);
        DUE.answers("update(2) with 3 bytes", 3, () -> Steps.update(x, 2, 3, 9));
        // A moved row's place is no identifier.
        HeapFile y = Steps.fullPage();
        Steps.update(y, 0, 51, 1);
        DUE.bounds("update(100) of a moved row's place", () -> y.update(100));
    }

    private static void deletes() {
        HeapFile x = Steps.fullPage();
        for (int row : Steps.FAR) {
            DUE.bounds("delete(" + row + ")", () -> x.delete(row));
        }
        DUE.bounds("delete(3)", () -> x.delete(3));
        DUE.answers("savedStates()", 3, x::savedStates);
        x.fill(4, 4);
        DUE.answers("delete(1)", 60, () -> x.delete(1));
        DUE.answers("delete keeps the buffer", 4, x::clearBuffer);
        DUE.bounds("delete(1) again", () -> x.delete(1));
        DUE.answers("slots", "3 8 77 51 0 0 8 8 1 12", () -> Steps.bytes(x, 0, 0, 10));
        DUE.answers("hole", "12 0 0", () -> Steps.bytes(x, 0, 15, 18));
        DUE.answers("delete(2)", 7, () -> x.delete(2));
        // Slots 1 and 2 go together: neither may be last and empty.
        DUE.answers("slots", "1 77 77 51 0 0 0 0", () -> Steps.bytes(x, 0, 0, 8));
        DUE.answers("delete(0)", 50, () -> x.delete(0));
        DUE.answers("slots", "0 128 0 0", () -> Steps.bytes(x, 0, 0, 4));
        DUE.answers("pages()", 1, x::pages);
        Steps.insert(x, 0, 0);
        Steps.insert(x, 1, 0);
        DUE.answers("delete(1)", 1, () -> x.delete(1));
        DUE.answers("delete(0)", 0, () -> x.delete(0));
    }

    private static void deletesMoved() {
        HeapFile x = Steps.fullPage();
        Steps.update(x, 2, 8, 1);
        DUE.answers("placeOf(2)", 100, () -> x.placeOf(2));
        DUE.bounds("delete(100) of a moved row's place", () -> x.delete(100));
        DUE.answers("delete(2)", 8, () -> x.delete(2));
        DUE.answers("kind(2)", 0, () -> x.kind(2));
        DUE.answers("kind(100)", 0, () -> x.kind(100));
        DUE.answers("slots of 0", "2 16 77 51 16 61 0 0", () -> Steps.bytes(x, 0, 0, 8));
        DUE.answers("slots of 1", "0 128 0 0", () -> Steps.bytes(x, 1, 0, 4));
        DUE.answers("the rest of 1", "0 0", () -> Steps.bytes(x, 1, 126, 128));
        DUE.answers("notes()", 0, x::notes);
        DUE.answers("moves()", 1, x::moves);
        DUE.answers("returns()", 0, x::returns);
    }

    private static void bringsHome() {
        HeapFile x = new HeapFile();
        DUE.answers("bringHome() without pages", 0, x::bringHome);
        DUE.answers("savedStates()", 1, x::savedStates);
        HeapFile y = Steps.fullPage();
        Steps.update(y, 2, 8, 33);
        DUE.answers("bringHome() without room", 0, y::bringHome);
        DUE.answers("returns()", 0, y::returns);
        y.delete(0);
        y.fill(5, 5);
        DUE.answers("bringHome()", 1, y::bringHome);
        DUE.answers("bringHome keeps the buffer", 5, y::clearBuffer);
        DUE.answers("returns()", 1, y::returns);
        DUE.answers("moves()", 1, y::moves);
        DUE.answers("length(2)", 8, () -> y.length(2));
        DUE.answers("byteOf(2, 7)", 33, () -> y.byteOf(2, 7));
        DUE.answers("placeOf(2)", 2, () -> y.placeOf(2));
        DUE.answers("bringHome() again", 0, y::bringHome);
        DUE.answers("pages()", 2, y::pages);
        DUE.answers("free(1)", 126, () -> y.free(1));
    }

    private static void bringsHomeIntoTheLastByte() {
        HeapFile x = Steps.fullPage();
        Steps.update(x, 2, 8, 1);
        // 5 free bytes and the note's 3; 9 are needed.
        DUE.answers("bringHome()", 0, x::bringHome);
        Steps.update(x, 1, 59, 1);
        DUE.answers("bringHome() with a byte more", 1, x::bringHome);
        DUE.answers("free(0)", 0, () -> x.free(0));
    }

    /** Two rows of one page are away; what there is of room goes to the lower one, and a return makes room itself. */
    private static void bringsHomeInOrder() {
        HeapFile x = Steps.fullPage();
        Steps.update(x, 0, 52, 1);
        Steps.insert(x, 45, 2);
        Steps.update(x, 2, 12, 3);
        DUE.answers("notes()", 2, x::notes);
        DUE.answers("free(0)", 5, () -> x.free(0));
        x.delete(3);
        // 53 free bytes: row 0 needs 53 - 3 of them, then row 2 has 3 + 3 for its 13.
        DUE.answers("free(0)", 53, () -> x.free(0));
        DUE.answers("bringHome()", 1, x::bringHome);
        DUE.answers("placeOf(0)", 0, () -> x.placeOf(0));
        DUE.answers("placeOf(2)", 101, () -> x.placeOf(2));
        x.delete(0);
        DUE.answers("bringHome()", 1, x::bringHome);
        DUE.answers("returns()", 2, x::returns);
        DUE.answers("notes()", 0, x::notes);
    }

    private static void compacts() {
        HeapFile x = new HeapFile();
        for (int page : Steps.FAR) {
            DUE.bounds("compact(" + page + ")", () -> x.compact(page));
        }
        DUE.bounds("compact(0) without pages", () -> x.compact(0));
        DUE.answers("savedStates()", 0, x::savedStates);
        for (int i = 0; i < 4; i++) {
            Steps.insert(x, 3 + i, 10 + i);
        }
        DUE.bounds("compact(1)", () -> x.compact(1));
        DUE.answers("compact(0) of a compact page", 0, () -> x.compact(0));
        DUE.answers("compactions()", 1, x::compactions);
        x.delete(1);
        Steps.insert(x, 1, 77);
        // Slot 1 lies lowest now; compacted, the slots lie in order again: slot 0 alone stays.
        DUE.answers("slots", "4 103 124 4 103 3 113 6 106 7", () -> Steps.bytes(x, 0, 0, 10));
        DUE.answers("compact(0)", 3, () -> x.compact(0));
        DUE.answers("slots", "4 108 124 4 121 3 115 6 108 7", () -> Steps.bytes(x, 0, 0, 10));
        DUE.answers("bytes", "0 0 0 0 0 1 13 13 13 13 13 13 1 12 12 12 12 12 5 77 0 1 10 10 10",
            () -> Steps.bytes(x, 0, 103, 128));
        DUE.answers("compact(0) again", 0, () -> x.compact(0));
        DUE.answers("compactions()", 3, x::compactions);
        DUE.answers("savedStates()", 6, x::savedStates);
        for (int row = 0; row < 4; row++) {
            x.delete(row);
        }
        DUE.answers("compact(0) of an empty page", 0, () -> x.compact(0));
        DUE.answers("slots", "0 128 0 0", () -> Steps.bytes(x, 0, 0, 4));
    }
}

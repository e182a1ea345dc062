/** The sentences of "Rows, records" and "Changing a row" that name a boundary, and promises 5 to 16 and 22 to 29 about them. */
public final class RowsBoundaryTest {
    private static final Due DUE = new Due("boundaries of rows");

    public static void main(String[] args) {
        lengthsAtHome();
        firstBytes();
        bytesThatLookLikeOthers();
        lengthsOfMovedRows();
        notesToBothEnds();
        identifierStays();
        atMostOneNote();
        bytesOfARow();
        homeOfARowAtHome();
        homeOfAMovedRow();
        greatestAtHome();
        aReturnIsOfAMovedRow();
        homeComesFirst();
        presentPage();
        presentPageComesSecond();
        noteStaysWhereItIs();
        anotherPage();
        cannotBeChanged();
        bringsHomeWithRoom();
        bringsHomeNothing();
        bringsHomeInAscendingOrder();
        bringsHomeIfThereIsRoomThen();
        forecastsAreWhatIsDone();
        DUE.end();
    }

    private static void counts(HeapFile x, int rows, int notes, int moves, int returns) {
        DUE.answers("rows()", rows, x::rows);
        DUE.answers("notes()", notes, x::notes);
        DUE.answers("moves()", moves, x::moves);
        DUE.answers("returns()", returns, x::returns);
    }

    private static void lengthsAtHome() {
        DUE.sentence("A row consists of 0 to 60 bytes. [..] So the size is 3 if the length is 0 or 1, and otherwise the length "
            + "plus 1.");
        for (int length = 0; length <= 60; length++) {
            HeapFile x = new HeapFile();
            int want = length;
            int size = length < 2 ? 3 : length + 1;
            DUE.answers("insert()", 0, () -> Steps.insertCounting(x, want, 100));
            DUE.answers("slots", "1 " + (128 - size) + " " + (128 - size) + " " + size, () -> Steps.slots(x, 0));
            DUE.answers("free(0)", 124 - size, () -> x.free(0));
            DUE.answers("length(0)", want, () -> x.length(0));
            DUE.answers("the row", Steps.counting(length, 100), () -> Steps.rowOf(x, 0));
            DUE.answers("update(0)", 1, () -> Steps.updateCounting(x, 0, 60 - want, 50));
            DUE.answers("the row", Steps.counting(60 - length, 50), () -> Steps.rowOf(x, 0));
            DUE.answers("delete(0)", 60 - want, () -> x.delete(0));
            DUE.answers("the page", "0 128" + " 0".repeat(126), () -> Steps.bytes(x, 0, 0, 128));
        }
    }

    private static void firstBytes() {
        DUE.sentence("The first byte is 4 if the length of the row is 0, 5 if it is 1, and 1 if it is greater.");
        HeapFile x = new HeapFile();
        String[] records = {"4 0 0", "5 255 0", "1 255 255", "1 255 255 255"};
        for (int length = 0; length < 4; length++) {
            int row = Steps.insert(x, length, 255);
            DUE.answers("record of " + length, records[length], () -> Steps.recordAt(x, row));
            Steps.update(x, row, 9, 1);
            Steps.update(x, row, length, 255);
            DUE.answers("record of " + length + " after update()", records[length], () -> Steps.recordAt(x, row));
        }
        DUE.answers("record of 60", "1" + " 255".repeat(60), () -> Steps.recordAt(x, Steps.insert(x, 60, 255)));
    }

    private static void bytesThatLookLikeOthers() {
        DUE.sentence("kind 1, a row at home: a first byte, the bytes of the row, and then 0 as often as is necessary for a size "
            + "of 3.");
        HeapFile x = new HeapFile();
        for (int length = 0; length <= 4; length++) {
            int want = length;
            int row = Steps.insert(x, length, 0);
            DUE.answers("length of " + length + " bytes 0", want, () -> x.length(row));
            DUE.bounds("byteOf(" + row + ", " + length + ")", () -> x.byteOf(row, want));
            DUE.answers("kind(" + row + ")", 1, () -> x.kind(row));
        }
        HeapFile y = new HeapFile();
        for (int value = 0; value <= 6; value++) {
            int want = value;
            int row = Steps.insert(y, 2, value);
            DUE.answers("kind(" + row + ")", 1, () -> y.kind(row));
            DUE.answers("length(" + row + ")", 2, () -> y.length(row));
            DUE.answers("byteOf(" + row + ", 0)", want, () -> y.byteOf(row, 0));
            DUE.answers("rowAt(" + row + ")", row, () -> y.rowAt(row));
        }
        DUE.answers("notes()", 0, y::notes);
        DUE.answers("rows()", 7, y::rows);
    }

    private static void lengthsOfMovedRows() {
        DUE.sentence("kind 3, a moved row: the byte 3, the page and the slot of its home, and the bytes of the row. Its size is "
            + "the length of the row plus 3.");
        // A note's 3 bytes have room for 2 bytes of a row: 3 is the shortest that is away.
        for (int length = 3; length <= 60; length++) {
            HeapFile x = Steps.withMoved();
            int want = length;
            DUE.answers("update(2)", 2, () -> Steps.updateCounting(x, 2, want, 150));
            DUE.answers("kind(102)", 3, () -> x.kind(102));
            DUE.answers("the record", "3 0 2 " + Steps.counting(length, 150), () -> Steps.recordAt(x, 102));
            DUE.answers("length(2)", want, () -> x.length(2));
            DUE.answers("the row", Steps.counting(length, 150), () -> Steps.rowOf(x, 2));
            DUE.bounds("byteOf(2, " + length + ")", () -> x.byteOf(2, want));
            DUE.answers("free(1)", 126 - 6 - 22 - 3 - want, () -> x.free(1));
            DUE.answers("delete(2)", want, () -> x.delete(2));
            DUE.answers("slots of 1", "2 106 117 11 106 11", () -> Steps.slots(x, 1));
        }
        HeapFile y = Steps.withRows(60, 55, 2);
        DUE.answers("update(2) of 2 bytes", 1, () -> Steps.update(y, 2, 2, 1));
        DUE.answers("update(2) of 60 bytes", 3, () -> Steps.updateCounting(y, 2, 60, 150));
        DUE.answers("slots of 1", "1 65 65 63", () -> Steps.slots(y, 1));
        DUE.answers("the row", Steps.counting(60, 150), () -> Steps.rowOf(y, 2));
        DUE.answers("update(2) of 2 bytes", 1, () -> Steps.updateCounting(y, 2, 2, 150));
        DUE.answers("the record", "1 150 151", () -> Steps.recordAt(y, 2));
    }

    private static void notesToBothEnds() {
        DUE.sentence("kind 2, a note: the byte 2, and the page and the slot where the row is. Its size is 3.");
        HeapFile x = Steps.fullFile();
        x.delete(700);
        x.delete(701);
        DUE.answers("update(2) to page 7", 3, () -> Steps.update(x, 2, 3, 9));
        DUE.answers("the note", "2 7 0", () -> Steps.recordAt(x, 2));
        DUE.answers("the moved row", "3 0 2 9 9 9", () -> Steps.recordAt(x, 700));
        DUE.answers("isRow(700)", false, () -> x.isRow(700));
        DUE.answers("rowAt(700)", 2, () -> x.rowAt(700));

        HeapFile y = new HeapFile();
        for (int length : new int[] {60, 60, 60, 60, 60, 60, 60, 60, 60, 60, 60, 60, 60, 60, 60, 55, 2}) {
            Steps.insert(y, length, 1);
        }
        y.delete(0);
        DUE.answers("update(702) to page 0", 3, () -> Steps.update(y, 702, 3, 9));
        DUE.answers("the note", "2 0 0", () -> Steps.recordAt(y, 702));
        DUE.answers("the moved row", "3 7 2 9 9 9", () -> Steps.recordAt(y, 0));
        DUE.answers("placeOf(702)", 0, () -> y.placeOf(702));
        DUE.answers("rowAt(0)", 702, () -> y.rowAt(0));
        DUE.answers("isRow(0)", false, () -> y.isRow(0));
        DUE.bounds("length(0)", () -> y.length(0));
        DUE.answers("next(-1)", 0, () -> y.next(-1));
        DUE.answers("next(701) over the note", -1, () -> y.next(701));
        DUE.answers("kind(0)", 3, () -> y.kind(0));
        DUE.answers("kind(702)", 2, () -> y.kind(702));
        DUE.answers("delete(702)", 3, () -> y.delete(702));
        DUE.answers("kind(0)", 0, () -> y.kind(0));
        DUE.answers("kind(702)", 0, () -> y.kind(702));
    }

    private static void identifierStays() {
        DUE.sentence("A row has an identifier, which is the place where it was inserted; this place is its home, and it does "
            + "not change.");
        HeapFile x = Steps.withMoved();
        Steps.update(x, 100, 60, 1);
        Steps.update(x, 2, 46, 8);
        int[][] due = {{0, 0}, {1, 1}, {2, 200}, {100, 100}, {101, 101}};
        for (int[] pair : due) {
            DUE.answers("isRow(" + pair[0] + ")", true, () -> x.isRow(pair[0]));
            DUE.answers("placeOf(" + pair[0] + ")", pair[1], () -> x.placeOf(pair[0]));
            DUE.answers("rowAt(" + pair[1] + ")", pair[0], () -> x.rowAt(pair[1]));
        }
        DUE.answers("isRow(102)", false, () -> x.isRow(102));
        DUE.answers("isRow(200)", false, () -> x.isRow(200));
        DUE.answers("compact(0)", 0, () -> x.compact(0));
        DUE.answers("placeOf(2) after compact(0)", 200, () -> x.placeOf(2));
        DUE.answers("update(2) that returns", 1, () -> Steps.update(x, 2, 1, 1));
        DUE.answers("placeOf(2)", 2, () -> x.placeOf(2));
        x.delete(2);
        DUE.answers("insert() at a place that is free again", 2, () -> Steps.insert(x, 2, 1));
    }

    private static void atMostOneNote() {
        DUE.sentence("So it is found by at most one note.");
        HeapFile x = Steps.withMoved();
        counts(x, 5, 1, 1, 0);
        Steps.update(x, 100, 60, 1);
        Steps.update(x, 2, 46, 8);
        counts(x, 5, 1, 2, 0);
        DUE.answers("the note", "2 2 0", () -> Steps.recordAt(x, 2));
        DUE.answers("kind(102)", 0, () -> x.kind(102));
        Steps.update(x, 1, 56, 8);
        counts(x, 5, 2, 3, 0);
        DUE.answers("the other note", "2 2 1", () -> Steps.recordAt(x, 1));
        DUE.answers("delete(2)", 46, () -> x.delete(2));
        counts(x, 4, 1, 3, 0);
        DUE.answers("placeOf(1)", 201, () -> x.placeOf(1));
    }

    private static void bytesOfARow() {
        DUE.sentence("index: 0 to (length of the row - 1)");
        HeapFile x = Steps.withMoved();
        Steps.updateCounting(x, 0, 60, 1);
        Steps.updateCounting(x, 2, 60, 101);
        DUE.answers("byteOf(0, 0)", 1, () -> x.byteOf(0, 0));
        DUE.answers("byteOf(0, 59)", 60, () -> x.byteOf(0, 59));
        DUE.answers("byteOf(2, 0)", 101, () -> x.byteOf(2, 0));
        DUE.answers("byteOf(2, 59)", 160, () -> x.byteOf(2, 59));
        for (int row : new int[] {0, 2}) {
            for (int index : new int[] {-3, -2, -1, 60, 61, Integer.MIN_VALUE, Integer.MAX_VALUE}) {
                DUE.bounds("byteOf(" + row + ", " + index + ")", () -> x.byteOf(row, index));
            }
        }
        Steps.update(x, 0, 1, 7);
        DUE.answers("byteOf(0, 0)", 7, () -> x.byteOf(0, 0));
        DUE.bounds("byteOf(0, 1)", () -> x.byteOf(0, 1));
        x.update(0);
        DUE.bounds("byteOf(0, 0) of no byte", () -> x.byteOf(0, 0));
    }

    private static void homeOfARowAtHome() {
        DUE.sentence("If there is room in its home (to replace its row at home, or its note) for a row at home with the new "
            + "bytes");
        HeapFile x = Steps.withRows(60, 50, 2);
        DUE.answers("free(0)", 5, () -> x.free(0));
        DUE.answers("update(2) of 8 bytes", 3, () -> Steps.update(x, 2, 8, 1));
        counts(x, 3, 1, 1, 0);
        x.undo();
        DUE.answers("update(2) of 7 bytes", 1, () -> Steps.update(x, 2, 7, 1));
        counts(x, 3, 0, 0, 0);
        DUE.answers("free(0)", 0, () -> x.free(0));
        DUE.answers("pages()", 1, x::pages);
        // A row of 3 bytes needs 4, in a full page a row of 2 bytes has 3.
        HeapFile y = Steps.withRows(60, 55, 2);
        DUE.answers("update(2) of 2 bytes", 1, () -> Steps.update(y, 2, 2, 1));
        DUE.answers("update(2) of 3 bytes", 3, () -> Steps.update(y, 2, 3, 1));
    }

    private static void homeOfAMovedRow() {
        DUE.sentence("If there is room in its home (to replace its row at home, or its note) for a row at home with the new "
            + "bytes");
        HeapFile x = Steps.withMoved();
        DUE.answers("free(0)", 0, () -> x.free(0));
        DUE.answers("ifUpdated(2, 0)", 1, () -> x.ifUpdated(2, 0));
        DUE.answers("ifUpdated(2, 2)", 1, () -> x.ifUpdated(2, 2));
        DUE.answers("ifUpdated(2, 3)", 2, () -> x.ifUpdated(2, 3));
        Steps.update(x, 1, 54, 1);
        DUE.answers("ifUpdated(2, 4) with 1 free byte", 2, () -> x.ifUpdated(2, 4));
        DUE.answers("update(2) of 4 bytes", 2, () -> Steps.update(x, 2, 4, 1));
        counts(x, 5, 1, 1, 0);
        DUE.answers("update(2) of 3 bytes", 1, () -> Steps.update(x, 2, 3, 1));
        counts(x, 5, 0, 1, 1);
        DUE.answers("free(0)", 0, () -> x.free(0));
    }

    private static void greatestAtHome() {
        DUE.sentence("Returns the greatest length for which update() would return 1. [..] Returns the length, at most 60.");
        HeapFile full = Steps.withRows(59, 56, 2);
        DUE.answers("greatestAtHome(0) with 60 bytes", 59, () -> full.greatestAtHome(0));
        DUE.answers("greatestAtHome(2) with 3 bytes", 2, () -> full.greatestAtHome(2));
        HeapFile exact = Steps.withRows(60, 55, 2);
        DUE.answers("greatestAtHome(0) with 61 bytes", 60, () -> exact.greatestAtHome(0));
        HeapFile more = Steps.withRows(60, 54, 2);
        DUE.answers("greatestAtHome(0) with 62 bytes", 60, () -> more.greatestAtHome(0));
        DUE.answers("greatestAtHome(2) with 4 bytes", 3, () -> more.greatestAtHome(2));
        HeapFile alone = Steps.withRows(0);
        DUE.answers("greatestAtHome(0) with 124 bytes", 60, () -> alone.greatestAtHome(0));
        HeapFile moved = Steps.withMoved();
        DUE.answers("greatestAtHome(2) with a note's 3 bytes", 2, () -> moved.greatestAtHome(2));
        Steps.update(moved, 1, 54, 1);
        DUE.answers("greatestAtHome(2) with 1 byte more", 3, () -> moved.greatestAtHome(2));
        moved.delete(1);
        DUE.answers("greatestAtHome(2) with 56 + 3 bytes", 58, () -> moved.greatestAtHome(2));
        moved.delete(0);
        DUE.answers("greatestAtHome(2) with 117 + 3 bytes", 60, () -> moved.greatestAtHome(2));
    }

    private static void aReturnIsOfAMovedRow() {
        DUE.sentence("If the row was moved before, this is a return.");
        HeapFile x = Steps.withMoved();
        DUE.answers("update(1), at home", 1, () -> Steps.update(x, 1, 5, 1));
        counts(x, 5, 1, 1, 0);
        DUE.answers("update(2), moved", 1, () -> Steps.update(x, 2, 2, 1));
        counts(x, 5, 0, 1, 1);
        DUE.answers("slots of 1", "2 106 117 11 106 11", () -> Steps.slots(x, 1));
        DUE.answers("update(2), at home again", 1, () -> Steps.update(x, 2, 2, 1));
        counts(x, 5, 0, 1, 1);
    }

    private static void homeComesFirst() {
        DUE.sentence("When a row gets new bytes, the first of these that is possible is done");
        HeapFile x = Steps.withMoved();
        x.delete(0);
        // Room in the home, in the present page and in a new one.
        DUE.answers("ifUpdated(2, 60)", 1, () -> x.ifUpdated(2, 60));
        DUE.answers("update(2)", 1, () -> Steps.updateCounting(x, 2, 60, 1));
        DUE.answers("placeOf(2)", 2, () -> x.placeOf(2));
        DUE.answers("the row", Steps.counting(60, 1), () -> Steps.rowOf(x, 2));
    }

    private static void presentPage() {
        DUE.sentence("If the row is moved, and there is room in its present page to replace the moved row: the moved row is "
            + "replaced.");
        HeapFile x = Steps.withMoved();
        Steps.update(x, 100, 60, 1);
        DUE.answers("free(1)", 42, () -> x.free(1));
        DUE.answers("ifUpdated(2, 46)", 3, () -> x.ifUpdated(2, 46));
        DUE.answers("update(2) of 45 bytes", 2, () -> Steps.updateCounting(x, 2, 45, 1));
        DUE.answers("free(1)", 0, () -> x.free(1));
        counts(x, 5, 1, 1, 0);
        DUE.answers("placeOf(2)", 102, () -> x.placeOf(2));
        DUE.answers("the row", Steps.counting(45, 1), () -> Steps.rowOf(x, 2));
        DUE.answers("update(2) of as many", 2, () -> Steps.update(x, 2, 45, 1));
        DUE.answers("update(2) of 46 bytes", 3, () -> Steps.updateCounting(x, 2, 46, 1));
        counts(x, 5, 1, 2, 0);
        DUE.answers("placeOf(2)", 200, () -> x.placeOf(2));
        DUE.answers("free(1)", 50, () -> x.free(1));
        DUE.answers("the row", Steps.counting(46, 1), () -> Steps.rowOf(x, 2));
    }

    private static void presentPageComesSecond() {
        DUE.sentence("When a row gets new bytes, the first of these that is possible is done");
        HeapFile x = Steps.withRows(60, 55, 2, 60, 55, 2);
        DUE.answers("update(2)", 3, () -> Steps.update(x, 2, 3, 1));
        DUE.answers("placeOf(2)", 200, () -> x.placeOf(2));
        x.delete(100);
        // Page 1 has room too, and a lower number.
        DUE.answers("update(2)", 2, () -> Steps.update(x, 2, 50, 1));
        DUE.answers("placeOf(2)", 200, () -> x.placeOf(2));
        DUE.answers("moves()", 1, x::moves);
    }

    private static void noteStaysWhereItIs() {
        DUE.sentence("the two bytes of the note are changed (the note stays where it is). This is a move.");
        HeapFile x = Steps.withRows(9, 60, 45);
        Steps.update(x, 0, 13, 1);
        Steps.update(x, 1, 59, 1);
        Steps.insert(x, 8, 1);
        DUE.answers("slots of 0", "4 10 125 3 19 60 79 46 10 9", () -> Steps.slots(x, 0));
        DUE.answers("insert()", 101, () -> Steps.insert(x, 60, 1));
        DUE.answers("insert()", 102, () -> Steps.insert(x, 42, 1));
        DUE.answers("free(1)", 0, () -> x.free(1));
        int compactions = x.compactions();
        String before = Steps.bytes(x, 0, 0, 125);
        DUE.answers("the note", "2 1 0", () -> Steps.bytes(x, 0, 125, 128));
        DUE.answers("update(0)", 3, () -> Steps.update(x, 0, 14, 1));
        DUE.answers("the note", "2 2 0", () -> Steps.bytes(x, 0, 125, 128));
        DUE.answers("the other bytes of page 0", before, () -> Steps.bytes(x, 0, 0, 125));
        DUE.answers("compactions()", compactions, x::compactions);
        DUE.answers("moves()", 2, x::moves);
        DUE.answers("slots of 1", "3 8 0 0 51 61 8 43", () -> Steps.slots(x, 1));
    }

    private static void anotherPage() {
        DUE.sentence("If a page is found for a moved row with the new bytes, except for the home page and the present page: the "
            + "new moved row is stored there.");
        HeapFile x = Steps.withRows(60, 55, 2, 60, 55, 2, 60, 55, 2);
        x.delete(0);
        // Row 202 grows in a full page: page 0 has an empty slot and 61 bytes, for a moved row of 58.
        DUE.answers("ifUpdated(202, 58)", 3, () -> x.ifUpdated(202, 58));
        DUE.answers("update(202) of 58 bytes", 3, () -> Steps.update(x, 202, 58, 1));
        DUE.answers("placeOf(202) in a lower page", 0, () -> x.placeOf(202));
        DUE.answers("pages()", 3, x::pages);
        x.undo();
        DUE.answers("update(202) of 59 bytes", 3, () -> Steps.update(x, 202, 59, 1));
        DUE.answers("placeOf(202) in a new page", 300, () -> x.placeOf(202));
        DUE.answers("pages()", 4, x::pages);
        DUE.answers("update(202) of 60 bytes", 2, () -> Steps.update(x, 202, 60, 1));
        x.undo();
        x.undo();
        Steps.update(x, 202, 3, 1);
        DUE.answers("placeOf(202)", 0, () -> x.placeOf(202));
        Steps.insert(x, 52, 1);
        DUE.answers("free(0)", 0, () -> x.free(0));
        DUE.answers("update(202) that moves on", 3, () -> Steps.update(x, 202, 4, 1));
        DUE.answers("placeOf(202)", 300, () -> x.placeOf(202));
        DUE.answers("moves()", 2, x::moves);
    }

    private static void cannotBeChanged() {
        DUE.sentence("Otherwise the row cannot be changed.");
        HeapFile x = Steps.withRows(60, 55, 2, 60, 60, 60, 60, 60, 60, 60, 60, 60, 60, 60, 60);
        Steps.update(x, 2, 3, 1);
        Steps.insert(x, 60, 1);
        Steps.insert(x, 52, 1);
        DUE.answers("pages()", 8, x::pages);
        DUE.answers("capacity(0)", 0, () -> x.capacity(0));
        long before = x.digest();
        // The moved row 2 has its 6 bytes in a full page, row 1 at home its 56.
        int[][] due = {{2, 2, 1}, {2, 3, 2}, {2, 4, -1}, {2, 60, -1}, {1, 55, 1}, {1, 56, -1}, {1, 60, -1}};
        for (int[] step : due) {
            DUE.answers("ifUpdated(" + step[0] + ", " + step[1] + ")", step[2], () -> x.ifUpdated(step[0], step[1]));
        }
        DUE.state("update(2), moved", () -> Steps.update(x, 2, 4, 1));
        DUE.state("update(1), at home", () -> Steps.update(x, 1, 56, 1));
        DUE.answers("digest()", before, x::digest);
        DUE.answers("the buffer", 56, x::clearBuffer);
        x.delete(600);
        // 61 free bytes and an empty slot.
        DUE.answers("ifUpdated(2, 58)", 3, () -> x.ifUpdated(2, 58));
        DUE.answers("ifUpdated(2, 59)", -1, () -> x.ifUpdated(2, 59));
        DUE.answers("ifUpdated(1, 58)", 3, () -> x.ifUpdated(1, 58));
        DUE.answers("ifUpdated(1, 59)", -1, () -> x.ifUpdated(1, 59));
        DUE.state("update(2)", () -> Steps.update(x, 2, 59, 1));
        DUE.answers("update(2)", 3, () -> Steps.update(x, 2, 58, 1));
        DUE.answers("placeOf(2)", 600, () -> x.placeOf(2));
    }

    /** Row 2 (8 bytes) is away; its home has some free bytes, and the note's 3. */
    private static HeapFile withNote(int freeAtHome) {
        HeapFile x = Steps.fullPage();
        Steps.updateCounting(x, 2, 8, 1);
        Steps.update(x, 0, 50 + 5 - freeAtHome, 1);
        return x;
    }

    private static void bringsHomeWithRoom() {
        DUE.sentence("the row returns (as by rule 1, with its own bytes) if there is room for it then");
        HeapFile x = withNote(5);
        DUE.answers("free(0)", 5, () -> x.free(0));
        DUE.answers("bringHome() with 8 bytes", 0, x::bringHome);
        counts(x, 3, 1, 1, 0);
        DUE.answers("placeOf(2)", 100, () -> x.placeOf(2));
        HeapFile y = withNote(6);
        DUE.answers("free(0)", 6, () -> y.free(0));
        DUE.answers("bringHome() with 9 bytes", 1, y::bringHome);
        counts(y, 3, 0, 1, 1);
        DUE.answers("free(0)", 0, () -> y.free(0));
        DUE.answers("the row", Steps.counting(8, 1), () -> Steps.rowOf(y, 2));
        DUE.answers("slots of 1", "0 128", () -> Steps.slots(y, 1));
        // The longest row, and the shortest that can be away.
        HeapFile z = Steps.withMoved();
        Steps.updateCounting(z, 2, 60, 101);
        z.delete(1);
        DUE.answers("bringHome() with 59 bytes", 0, z::bringHome);
        Steps.update(z, 0, 59, 1);
        DUE.answers("bringHome() with 60 bytes", 0, z::bringHome);
        Steps.update(z, 0, 58, 1);
        DUE.answers("bringHome() with 61 bytes", 1, z::bringHome);
        DUE.answers("the row", Steps.counting(60, 101), () -> Steps.rowOf(z, 2));
        HeapFile v = Steps.withMoved();
        DUE.answers("bringHome() with 3 bytes", 0, v::bringHome);
        Steps.update(v, 1, 54, 1);
        DUE.answers("bringHome() with 4 bytes", 1, v::bringHome);
        DUE.answers("the row", "33 33 33", () -> Steps.rowOf(v, 2));
    }

    private static void bringsHomeNothing() {
        DUE.sentence("Returns the number of rows that return.");
        HeapFile x = new HeapFile();
        DUE.answers("bringHome() without pages", 0, x::bringHome);
        DUE.answers("pages()", 0, x::pages);
        HeapFile y = Steps.withRows(60, 2);
        long before = y.digest();
        DUE.answers("bringHome() without notes", 0, y::bringHome);
        y.delete(0);
        y.delete(1);
        DUE.answers("bringHome() without rows", 0, y::bringHome);
        y.undo();
        y.undo();
        y.undo();
        DUE.answers("digest()", before, y::digest);
    }

    private static void bringsHomeInAscendingOrder() {
        DUE.sentence("for each note, in ascending order of their places");
        // Row 2 goes away first, then row 1; there is room for one of them.
        HeapFile x = Steps.withRows(60, 40, 14);
        DUE.answers("free(0)", 3, () -> x.free(0));
        Steps.update(x, 2, 18, 1);
        Steps.update(x, 1, 60, 2);
        DUE.answers("free(0)", 53, () -> x.free(0));
        DUE.answers("placeOf(2)", 100, () -> x.placeOf(2));
        DUE.answers("placeOf(1)", 101, () -> x.placeOf(1));
        Steps.update(x, 0, 55, 1);
        DUE.answers("free(0)", 58, () -> x.free(0));
        DUE.answers("bringHome()", 1, x::bringHome);
        DUE.answers("placeOf(1), the lower one", 1, () -> x.placeOf(1));
        DUE.answers("placeOf(2), the higher one", 100, () -> x.placeOf(2));
        DUE.answers("free(0)", 0, () -> x.free(0));
        // Notes of two pages: the lower page comes first, and its row leaves room for the higher one's.
        HeapFile y = Steps.withRows(60, 55, 2, 60, 40, 2);
        DUE.answers("ifInserted(10)", 103, () -> y.ifInserted(10));
        Steps.update(y, 2, 10, 1);
        DUE.answers("placeOf(2)", 103, () -> y.placeOf(2));
        Steps.update(y, 102, 5, 2);
        DUE.answers("placeOf(102)", 200, () -> y.placeOf(102));
        DUE.answers("bringHome()", 0, y::bringHome);
        y.delete(1);
        DUE.answers("bringHome() of both", 2, y::bringHome);
        counts(y, 5, 0, 2, 2);
        DUE.answers("row 2", "1 1 1 1 1 1 1 1 1 1", () -> Steps.rowOf(y, 2));
        DUE.answers("row 102", "2 2 2 2 2", () -> Steps.rowOf(y, 102));
    }

    private static void bringsHomeIfThereIsRoomThen() {
        DUE.sentence("if there is room for it then");
        HeapFile x = Steps.withRows(60, 55, 2, 60, 55, 2);
        Steps.update(x, 1, 40, 1);
        Steps.update(x, 102, 5, 2);
        DUE.answers("placeOf(102)", 3, () -> x.placeOf(102));
        Steps.update(x, 2, 8, 3);
        DUE.answers("placeOf(2)", 200, () -> x.placeOf(2));
        Steps.update(x, 101, 50, 4);
        // Row 102 leaves page 0 only after row 2 had its turn.
        DUE.answers("bringHome()", 1, x::bringHome);
        DUE.answers("placeOf(102)", 102, () -> x.placeOf(102));
        DUE.answers("placeOf(2)", 200, () -> x.placeOf(2));
        DUE.answers("bringHome() once more", 1, x::bringHome);
        DUE.answers("placeOf(2)", 2, () -> x.placeOf(2));
        counts(x, 6, 0, 2, 2);
    }

    /** Each forecast for a row and a length is compared with what update() itself then does. */
    private static void forecastsAreWhatIsDone() {
        DUE.sentence("Predicts what update() would do. [..] Returns 1, 2 or 3; NONE if the row could not be changed.");
        Twins.Recipe[] recipes = {Steps::fullPage, Steps::withMoved, Steps::fullFile, () -> withNote(6),
            RowsBoundaryTest::fullFileWithNote};
        for (Twins.Recipe recipe : recipes) {
            HeapFile x = recipe.made();
            long before = x.digest();
            for (int row = 0; row < 800; row++) {
                for (int length = 0; length <= 60 && x.isRow(row); length++) {
                    forecastIsWhatIsDone(x, row, length);
                    DUE.answers("digest()", before, x::digest);
                }
            }
        }
    }

    private static void forecastIsWhatIsDone(HeapFile x, int row, int length) {
        int way = x.ifUpdated(row, length);
        boolean possible = way != HeapFile.NONE;
        int due = possible ? length : x.length(row);
        DUE.answers("greatestAtHome(" + row + ") reaches " + length, way == 1, () -> x.greatestAtHome(row) >= length);
        DUE.answers("update(" + row + ") of " + length + " as ifUpdated() says",
            possible ? way : "throws.IllegalStateException", () -> Steps.update(x, row, length, 1));
        DUE.answers("length(" + row + ")", due, () -> x.length(row));
        if (possible) {
            x.undo();
        }
    }

    private static HeapFile fullFileWithNote() {
        HeapFile x = Steps.fullFile();
        x.delete(300);
        Steps.update(x, 2, 3, 1);
        Steps.insert(x, 40, 1);
        return x;
    }
}

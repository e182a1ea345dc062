/** The sentences of "Storing and removing records" that name a boundary, and promises 9, 25 and 30 about them. */
public final class StorageBoundaryTest {
    private static final Due DUE = new Due("boundaries of storing");

    private static final String PUT = "if the gap is less than the size, the page is compacted first";

    public static void main(String[] args) {
        removes();
        putsIntoAnEmptySlot();
        putsIntoANewSlot();
        putsAnotherRecordAtHome();
        putsTheLowestRecordAnew();
        putsANote();
        putsAMovedRowAnew();
        putsAMovedRowIntoANewSlot();
        putsAReturn();
        endsAtTheLastByte();
        compactsInOrderOfSlots();
        compactsRecordsOverOneAnother();
        compactsAroundEmptySlots();
        countsChangedOffsets();
        takesTheLowestEmptySlot();
        roomWithAnEmptySlot();
        roomForANewSlot();
        roomForAMovedRow();
        replacedSlotStays();
        roomToReplace();
        findsTheLowestPage();
        opensTheEighthPage();
        forecastsAreWhatIsDone();
        DUE.end();
    }

    private static void slots(HeapFile x, int page, String want, int compactions) {
        DUE.answers("slots of " + page, want, () -> Steps.slots(x, page));
        DUE.answers("compactions()", compactions, x::compactions);
    }

    private static void removes() {
        DUE.sentence("To remove a record means: its bytes and its slot become 0.");
        HeapFile x = new HeapFile();
        Steps.insert(x, 4, 201);
        Steps.insert(x, 5, 202);
        Steps.insert(x, 3, 203);
        DUE.answers("bytes", "1 203 203 203 1 202 202 202 202 202 1 201 201 201 201", () -> Steps.bytes(x, 0, 113, 128));
        x.delete(1);
        DUE.answers("bytes", "1 203 203 203 0 0 0 0 0 0 1 201 201 201 201", () -> Steps.bytes(x, 0, 113, 128));
        slots(x, 0, "3 113 123 5 0 0 113 4", 0);
        x.delete(0);
        DUE.answers("bytes", "0 1 203 203 203 0 0 0 0 0 0 0 0 0 0 0", () -> Steps.bytes(x, 0, 112, 128));
        slots(x, 0, "3 113 0 0 0 0 113 4", 0);
        x.delete(2);
        DUE.answers("the page", "0 128" + " 0".repeat(126), () -> Steps.bytes(x, 0, 0, 128));
    }

    /** Records of 11, 61 and 21 bytes at 117, 56 and 35; the gap is 27. */
    private static HeapFile threeRows() {
        return Steps.withRows(10, 60, 20);
    }

    private static void putsIntoAnEmptySlot() {
        DUE.sentence(PUT);
        HeapFile x = threeRows();
        x.delete(0);
        DUE.answers("gap(0)", 27, () -> x.gap(0));
        DUE.answers("insert() as long as the gap", 0, () -> Steps.insert(x, 26, 1));
        slots(x, 0, "3 8 8 27 56 61 35 21", 0);
        DUE.answers("gap(0)", 0, () -> x.gap(0));
        x.undo();
        DUE.answers("insert() longer than the gap", 0, () -> Steps.insert(x, 27, 1));
        slots(x, 0, "3 18 18 28 67 61 46 21", 1);
    }

    private static void putsIntoANewSlot() {
        DUE.sentence("Then it is put there (its gap is computed with the new slot).");
        HeapFile x = Steps.withRows(30, 60);
        Steps.update(x, 0, 4, 1);
        // Without the new slot the gap is 25.
        slots(x, 0, "2 31 31 5 36 61", 0);
        DUE.answers("gap(0)", 25, () -> x.gap(0));
        DUE.answers("insert() as long as the gap", 2, () -> Steps.insert(x, 22, 1));
        slots(x, 0, "3 8 31 5 36 61 8 23", 0);
        x.undo();
        DUE.answers("insert() longer than the gap", 2, () -> Steps.insert(x, 23, 1));
        slots(x, 0, "3 38 123 5 62 61 38 24", 1);
        x.undo();
        DUE.answers("insert() longer by 2", 2, () -> Steps.insert(x, 24, 1));
        slots(x, 0, "3 37 123 5 62 61 37 25", 1);
    }

    private static void putsAnotherRecordAtHome() {
        DUE.sentence(PUT);
        HeapFile x = threeRows();
        DUE.answers("update(1) as long as the gap", 1, () -> Steps.update(x, 1, 26, 1));
        slots(x, 0, "3 8 117 11 8 27 35 21", 0);
        x.undo();
        DUE.answers("update(1) longer than the gap", 1, () -> Steps.update(x, 1, 27, 1));
        slots(x, 0, "3 68 117 11 68 28 96 21", 1);
    }

    private static void putsTheLowestRecordAnew() {
        DUE.sentence("To replace a record by a new one (of the same size or of another one) means: it is removed [..], and "
            + "the new record is put into the same slot.");
        HeapFile x = threeRows();
        // Removed first, the lowest record adds its own 21 bytes to the gap of 27.
        DUE.answers("update(2) as long as the gap", 1, () -> Steps.update(x, 2, 47, 1));
        slots(x, 0, "3 8 117 11 56 61 8 48", 0);
        x.undo();
        x.delete(0);
        DUE.answers("update(2) longer than the gap", 1, () -> Steps.update(x, 2, 48, 1));
        slots(x, 0, "3 18 0 0 67 61 18 49", 1);
        HeapFile y = threeRows();
        DUE.answers("update(2) of the same size", 1, () -> Steps.update(y, 2, 20, 77));
        slots(y, 0, "3 35 117 11 56 61 35 21", 0);
        DUE.answers("update(0) of the same size", 1, () -> Steps.update(y, 0, 10, 78));
        slots(y, 0, "3 24 24 11 56 61 35 21", 0);
        DUE.answers("the old place", "0 0 0 0 0 0 0 0 0 0 0", () -> Steps.bytes(y, 0, 117, 128));
    }

    private static void putsANote() {
        DUE.sentence(PUT);
        HeapFile x = Steps.withRows(9, 60, 45);
        DUE.answers("gap(0)", 3, () -> x.gap(0));
        DUE.answers("update(0) with a gap as long as a note", 3, () -> Steps.update(x, 0, 13, 1));
        slots(x, 0, "3 8 8 3 57 61 11 46", 0);
        HeapFile y = Steps.withRows(9, 60, 46);
        DUE.answers("gap(0)", 2, () -> y.gap(0));
        DUE.answers("update(0) with a gap shorter than a note", 3, () -> Steps.update(y, 0, 12, 1));
        slots(y, 0, "3 17 17 3 67 61 20 47", 1);
        HeapFile z = Steps.withRows(60, 46, 9);
        // The lowest record leaves its own bytes to the note.
        DUE.answers("update(2) of the lowest record", 3, () -> Steps.update(z, 2, 13, 1));
        slots(z, 0, "3 17 67 61 20 47 17 3", 0);
    }

    /** Page 1: the moved row 2 at 100 (6 bytes), the rows 101 and 102; its gap is 21. */
    private static HeapFile withMovedRowAbove() {
        HeapFile x = Steps.withRows(60, 55, 2);
        Steps.update(x, 2, 3, 1);
        Steps.insert(x, 60, 2);
        Steps.insert(x, 31, 3);
        return x;
    }

    private static void putsAMovedRowAnew() {
        DUE.sentence(PUT);
        HeapFile x = withMovedRowAbove();
        slots(x, 1, "3 29 122 6 61 61 29 32", 0);
        DUE.answers("update(2) as long as the gap", 2, () -> Steps.update(x, 2, 18, 4));
        slots(x, 1, "3 8 8 21 61 61 29 32", 0);
        x.undo();
        DUE.answers("update(2) longer than the gap", 2, () -> Steps.update(x, 2, 19, 4));
        slots(x, 1, "3 13 13 22 67 61 35 32", 1);
    }

    private static void putsAMovedRowIntoANewSlot() {
        DUE.sentence("Then it is put there (its gap is computed with the new slot).");
        HeapFile x = Steps.withRows(60, 55, 2, 30, 60);
        Steps.update(x, 100, 4, 1);
        slots(x, 1, "2 31 31 5 36 61", 0);
        DUE.answers("update(2) as long as the gap", 3, () -> Steps.update(x, 2, 20, 1));
        slots(x, 1, "3 8 31 5 36 61 8 23", 0);
        x.undo();
        DUE.answers("update(2) longer than the gap", 3, () -> Steps.update(x, 2, 21, 1));
        slots(x, 1, "3 38 123 5 62 61 38 24", 1);
    }

    private static void putsAReturn() {
        DUE.sentence(PUT);
        HeapFile x = Steps.withRows(9, 60, 45);
        Steps.update(x, 0, 13, 1);
        DUE.answers("update(0) as long as the gap with the note's bytes", 1, () -> Steps.update(x, 0, 2, 1));
        slots(x, 0, "3 8 8 3 57 61 11 46", 0);
        x.undo();
        DUE.answers("update(0) longer than this", 1, () -> Steps.update(x, 0, 3, 1));
        slots(x, 0, "3 17 17 4 67 61 21 46", 1);
        HeapFile y = Steps.withRows(9, 60, 45);
        Steps.update(y, 0, 13, 1);
        y.delete(1);
        DUE.answers("bringHome()", 1, y::bringHome);
        slots(y, 0, "3 68 68 14 0 0 82 46", 1);
    }

    private static void endsAtTheLastByte() {
        DUE.sentence("Then the record ends where the lowest record of the page begins, or at byte 127 if the page has no "
            + "record.");
        HeapFile x = Steps.withRows(60);
        slots(x, 0, "1 67 67 61", 0);
        Steps.update(x, 0, 5, 9);
        slots(x, 0, "1 122 122 6", 0);
        Steps.update(x, 0, 60, 9);
        slots(x, 0, "1 67 67 61", 0);
        x.delete(0);
        Steps.insert(x, 0, 0);
        slots(x, 0, "1 125 125 3", 0);
        Steps.insert(x, 1, 0);
        slots(x, 0, "2 122 125 3 122 3", 0);
    }

    private static void compactsInOrderOfSlots() {
        DUE.sentence("To compact a page means: its records are taken in ascending order of their slots");
        HeapFile x = new HeapFile();
        Steps.insertCounting(x, 4, 1);
        Steps.insertCounting(x, 6, 11);
        Steps.insertCounting(x, 3, 21);
        Steps.insertCounting(x, 5, 31);
        // Put anew, the slots lie from above in the order 1, 3, 2, 0, and there are holes.
        Steps.updateCounting(x, 2, 7, 41);
        Steps.updateCounting(x, 0, 9, 51);
        slots(x, 0, "4 88 88 10 116 7 98 8 106 6", 0);
        DUE.answers("compact(0)", 4, () -> x.compact(0));
        slots(x, 0, "4 97 118 10 111 7 103 8 97 6", 1);
        DUE.answers("record 0", "1 " + Steps.counting(9, 51), () -> Steps.recordAt(x, 0));
        DUE.answers("record 1", "1 " + Steps.counting(6, 11), () -> Steps.recordAt(x, 1));
        DUE.answers("record 2", "1 " + Steps.counting(7, 41), () -> Steps.recordAt(x, 2));
        DUE.answers("record 3", "1 " + Steps.counting(5, 31), () -> Steps.recordAt(x, 3));
        DUE.answers("the bytes between", "0" + " 0".repeat(86), () -> Steps.bytes(x, 0, 10, 97));
    }

    private static void compactsRecordsOverOneAnother() {
        DUE.sentence("the first one is moved to the end of the page, so that it ends at byte 127, and each following one so "
            + "that it ends directly before the one that was moved before it");
        HeapFile x = new HeapFile();
        Steps.insertCounting(x, 3, 1);
        Steps.insertCounting(x, 60, 101);
        Steps.insertCounting(x, 40, 201);
        x.delete(0);
        // Each moves by 4 bytes only, over where it lies itself.
        DUE.answers("compact(0)", 2, () -> x.compact(0));
        slots(x, 0, "3 26 0 0 67 61 26 41", 1);
        DUE.answers("row 1", Steps.counting(60, 101), () -> Steps.rowOf(x, 1));
        DUE.answers("row 2", Steps.counting(40, 201), () -> Steps.rowOf(x, 2));
        DUE.answers("the bytes between", "0" + " 0".repeat(17), () -> Steps.bytes(x, 0, 8, 26));
        HeapFile y = new HeapFile();
        Steps.insertCounting(y, 20, 1);
        Steps.insertCounting(y, 50, 101);
        Steps.updateCounting(y, 0, 30, 201);
        // A record of 51 bytes goes down where the lower one of 31 lies, which goes above it.
        DUE.answers("compact(0)", 2, () -> y.compact(0));
        slots(y, 0, "2 46 97 31 46 51", 1);
        DUE.answers("row 0", Steps.counting(30, 201), () -> Steps.rowOf(y, 0));
        DUE.answers("row 1", Steps.counting(50, 101), () -> Steps.rowOf(y, 1));
        DUE.answers("the bytes between", "0" + " 0".repeat(39), () -> Steps.bytes(y, 0, 6, 46));
    }

    private static void compactsAroundEmptySlots() {
        DUE.sentence("To compact a page means: its records are taken in ascending order of their slots");
        HeapFile x = Steps.withRows(4, 5, 6, 7, 8);
        x.delete(0);
        x.delete(2);
        x.delete(3);
        slots(x, 0, "5 93 0 0 117 6 0 0 0 0 93 9", 0);
        DUE.answers("compact(0)", 2, () -> x.compact(0));
        slots(x, 0, "5 113 0 0 122 6 0 0 0 0 113 9", 1);
        DUE.answers("kind(2)", 0, () -> x.kind(2));
        DUE.answers("insert() in slot 0", 0, () -> Steps.insert(x, 1, 1));
        slots(x, 0, "5 110 110 3 122 6 0 0 0 0 113 9", 1);
    }

    private static void countsChangedOffsets() {
        DUE.sentence("Returns the number of records that change their offset.");
        HeapFile x = new HeapFile();
        DUE.bounds("compact(0) without pages", () -> x.compact(0));
        Steps.insert(x, 60, 1);
        x.delete(0);
        DUE.answers("compact(0) without a record", 0, () -> x.compact(0));
        slots(x, 0, "0 128", 1);
        HeapFile y = Steps.withRows(5, 5, 5);
        DUE.answers("compact(0) of a compact page", 0, () -> y.compact(0));
        y.delete(1);
        DUE.answers("compact(0) that moves the lowest", 1, () -> y.compact(0));
        Steps.update(y, 0, 4, 1);
        DUE.answers("compact(0) that moves all", 2, () -> y.compact(0));
        slots(y, 0, "3 117 123 5 0 0 117 6", 3);
        DUE.answers("savedStates()", 6, y::savedStates);
        DUE.bounds("compact(-1)", () -> y.compact(-1));
        DUE.bounds("compact(1)", () -> y.compact(1));
        slots(y, 0, "3 117 123 5 0 0 117 6", 3);
    }

    private static void takesTheLowestEmptySlot() {
        DUE.sentence("it gets the empty slot with the lowest number. If there is none, the number of slots increases by 1, "
            + "and it gets the new slot.");
        HeapFile x = Steps.withRows(2, 2, 2, 2, 2);
        x.delete(3);
        x.delete(1);
        DUE.answers("ifInserted(2)", 1, () -> x.ifInserted(2));
        DUE.answers("insert()", 1, () -> Steps.insert(x, 2, 1));
        DUE.answers("insert() more", 3, () -> Steps.insert(x, 2, 1));
        DUE.answers("pageByte(0, 0)", 5, () -> x.pageByte(0, 0));
        DUE.answers("insert() in a new slot", 5, () -> Steps.insert(x, 2, 1));
        DUE.answers("pageByte(0, 0)", 6, () -> x.pageByte(0, 0));
        HeapFile y = Steps.withRows(60, 55, 2, 10, 10, 10);
        y.delete(101);
        DUE.answers("update(2)", 3, () -> Steps.update(y, 2, 3, 1));
        DUE.answers("placeOf(2) in an empty slot", 101, () -> y.placeOf(2));
        Steps.update(y, 1, 60, 1);
        DUE.answers("placeOf(1) in a new slot", 103, () -> y.placeOf(1));
    }

    private static void roomWithAnEmptySlot() {
        DUE.sentence("The page has room for the record if there is an empty slot and the size is at most the free bytes");
        HeapFile x = Steps.fullPage();
        x.delete(0);
        DUE.answers("free(0)", 51, () -> x.free(0));
        DUE.answers("ifInserted(50)", 0, () -> x.ifInserted(50));
        DUE.answers("ifInserted(51)", 100, () -> x.ifInserted(51));
        DUE.answers("insert() of 51 bytes", 100, () -> Steps.insert(x, 51, 1));
        DUE.answers("insert() of 50 bytes", 0, () -> Steps.insert(x, 50, 1));
        DUE.answers("free(0)", 0, () -> x.free(0));
        HeapFile y = Steps.withRows(60, 2, 55);
        y.delete(1);
        DUE.answers("ifInserted(0) with 3 free bytes", 1, () -> y.ifInserted(0));
        DUE.answers("ifInserted(2) with 3 free bytes", 1, () -> y.ifInserted(2));
        DUE.answers("ifInserted(3) with 3 free bytes", 100, () -> y.ifInserted(3));
        DUE.answers("capacity(2)", 176, () -> y.capacity(2));
        Steps.update(y, 2, 56, 1);
        DUE.answers("ifInserted(0) with 2 free bytes", 100, () -> y.ifInserted(0));
        DUE.answers("capacity(2)", 175, () -> y.capacity(2));
    }

    private static void roomForANewSlot() {
        DUE.sentence("or if there is no empty slot, the page has fewer than 31 slots, and the size plus 2 is at most the "
            + "free bytes");
        HeapFile x = Steps.withRows(60, 50);
        DUE.answers("free(0)", 10, () -> x.free(0));
        DUE.answers("ifInserted(7)", 2, () -> x.ifInserted(7));
        DUE.answers("ifInserted(8)", 100, () -> x.ifInserted(8));
        DUE.answers("insert() of 8 bytes", 100, () -> Steps.insert(x, 8, 1));
        DUE.answers("insert() of 7 bytes", 2, () -> Steps.insert(x, 7, 1));
        DUE.answers("free(0)", 0, () -> x.free(0));
        HeapFile y = Steps.withRows(60, 55);
        DUE.answers("ifInserted(0) with 5 free bytes", 2, () -> y.ifInserted(0));
        DUE.answers("ifInserted(2) with 5 free bytes", 2, () -> y.ifInserted(2));
        DUE.answers("ifInserted(3) with 5 free bytes", 100, () -> y.ifInserted(3));
        HeapFile z = Steps.withRows(60, 56);
        DUE.answers("ifInserted(0) with 4 free bytes", 100, () -> z.ifInserted(0));
        HeapFile v = Steps.withRows(60);
        DUE.answers("ifInserted(60) with 63 free bytes", 1, () -> v.ifInserted(60));
        HeapFile w = Steps.withRows(60);
        w.update(0);
        Steps.insert(w, 59, 1);
        DUE.answers("free(0)", 126 - 4 - 3 - 60, () -> w.free(0));
        DUE.answers("ifInserted(56)", 2, () -> w.ifInserted(56));
        DUE.answers("ifInserted(57)", 100, () -> w.ifInserted(57));
    }

    private static void roomForAMovedRow() {
        DUE.sentence("If a page is found for a moved row with the new bytes, except for the home page and the present page");
        // Page 1 has 10 free bytes and no empty slot: a moved row of 5 bytes takes 8 and a slot.
        HeapFile x = Steps.withRows(60, 55, 2, 60, 50);
        DUE.answers("update(2) with 6 bytes", 3, () -> Steps.update(x, 2, 6, 1));
        DUE.answers("placeOf(2)", 200, () -> x.placeOf(2));
        x.undo();
        DUE.answers("update(2) with 5 bytes", 3, () -> Steps.update(x, 2, 5, 1));
        DUE.answers("placeOf(2)", 102, () -> x.placeOf(2));
        DUE.answers("free(1)", 0, () -> x.free(1));
        // Page 1 has 12 free bytes and an empty slot: a moved row of 9 bytes takes 12.
        HeapFile y = Steps.withRows(60, 55, 2, 11, 60, 39);
        DUE.answers("free(1)", 7, () -> y.free(1));
        y.delete(100);
        DUE.answers("free(1)", 19, () -> y.free(1));
        DUE.answers("update(2) with 17 bytes", 3, () -> Steps.update(y, 2, 17, 1));
        DUE.answers("placeOf(2)", 200, () -> y.placeOf(2));
        y.undo();
        DUE.answers("update(2) with 16 bytes", 3, () -> Steps.update(y, 2, 16, 1));
        DUE.answers("placeOf(2)", 100, () -> y.placeOf(2));
        DUE.answers("free(1)", 0, () -> y.free(1));
    }

    private static void replacedSlotStays() {
        DUE.sentence("it is removed (but its slot stays, also if it is the last one)");
        HeapFile x = threeRows();
        x.delete(1);
        DUE.answers("update(2), the last one", 1, () -> Steps.update(x, 2, 60, 1));
        slots(x, 0, "3 56 117 11 0 0 56 61", 0);
        x.delete(0);
        DUE.answers("update(2), the sole one", 1, () -> Steps.update(x, 2, 0, 0));
        slots(x, 0, "3 125 0 0 0 0 125 3", 0);
        DUE.answers("isRow(2)", true, () -> x.isRow(2));
        HeapFile y = Steps.withMoved();
        y.delete(100);
        y.delete(101);
        DUE.answers("update(2), the last one, moved", 2, () -> Steps.update(y, 2, 60, 1));
        slots(y, 1, "3 65 0 0 0 0 65 63", 0);
        y.delete(0);
        y.delete(1);
        DUE.answers("update(2), whose note is the sole one", 1, () -> Steps.update(y, 2, 60, 1));
        slots(y, 0, "3 67 0 0 0 0 67 61", 0);
        slots(y, 1, "0 128", 0);
    }

    private static void roomToReplace() {
        DUE.sentence("There is room for this if the new size is at most the free bytes plus the old size.");
        HeapFile x = Steps.withRows(40, 40, 30);
        DUE.answers("free(0)", 7, () -> x.free(0));
        for (int row = 0; row < 3; row++) {
            int old = row == 2 ? 30 : 40;
            int number = row;
            DUE.answers("ifUpdated(" + row + ", " + (old + 7) + ")", 1, () -> x.ifUpdated(number, old + 7));
            DUE.answers("ifUpdated(" + row + ", " + (old + 8) + ")", 3, () -> x.ifUpdated(number, old + 8));
            DUE.answers("greatestAtHome(" + row + ")", old + 7, () -> x.greatestAtHome(number));
            DUE.answers("update(" + row + ") that fills the page", 1, () -> Steps.update(x, number, old + 7, 1));
            DUE.answers("free(0)", 0, () -> x.free(0));
            x.undo();
            DUE.answers("update(" + row + ") by a byte more", 3, () -> Steps.update(x, number, old + 8, 1));
            DUE.answers("free(0)", 7 + old + 1 - 3, () -> x.free(0));
            x.undo();
        }
        // Rows of 0 to 2 bytes all need 3, so in a full page each may become any other of them.
        HeapFile y = Steps.fullFile();
        for (int old = 0; old <= 2; old++) {
            Steps.update(y, 2, old, 1);
            for (int length = 0; length <= 2; length++) {
                int want = length;
                DUE.answers("ifUpdated(2, " + length + ")", 1, () -> y.ifUpdated(2, want));
            }
            DUE.answers("ifUpdated(2, 3)", -1, () -> y.ifUpdated(2, 3));
            DUE.answers("greatestAtHome(2)", 2, () -> y.greatestAtHome(2));
        }
    }

    private static void findsTheLowestPage() {
        DUE.sentence("the page with the lowest number that has room, except for these");
        HeapFile x = new HeapFile();
        for (int i = 0; i < 8; i++) {
            Steps.insert(x, 60, i);
        }
        x.delete(0);
        x.delete(101);
        x.delete(200);
        x.delete(201);
        DUE.answers("insert() where two pages have more room", 0, () -> Steps.insert(x, 10, 1));
        DUE.answers("insert() that fits in page 0 no more", 101, () -> Steps.insert(x, 60, 1));
        DUE.answers("insert() in page 0", 2, () -> Steps.insert(x, 46, 1));
        DUE.answers("insert() in page 2", 200, () -> Steps.insert(x, 0, 1));
        DUE.answers("pages()", 4, x::pages);
        DUE.answers("insert()", 201, () -> Steps.insert(x, 10, 1));
        // Page 1 is full, page 2 has 108 free bytes, and there may be new pages.
        DUE.answers("update(2)", 3, () -> Steps.update(x, 2, 48, 1));
        DUE.answers("placeOf(2)", 202, () -> x.placeOf(2));
    }

    private static void opensTheEighthPage() {
        DUE.sentence("if there is none, a new page, if there are fewer than 8 pages");
        HeapFile x = new HeapFile();
        for (int i = 0; i < 14; i++) {
            Steps.insert(x, 60, i);
        }
        DUE.answers("pages()", 7, x::pages);
        DUE.answers("ifInserted(0)", 700, () -> x.ifInserted(0));
        DUE.answers("insert()", 700, () -> Steps.insert(x, 60, 1));
        DUE.answers("ifInserted(60)", 701, () -> x.ifInserted(60));
        DUE.answers("insert()", 701, () -> Steps.insert(x, 60, 1));
        DUE.answers("ifInserted(0)", -1, () -> x.ifInserted(0));
        DUE.state("insert()", () -> Steps.insert(x, 0, 1));
        DUE.answers("undo()", 5, x::undo);
        DUE.answers("undo()", 4, x::undo);
        DUE.answers("pages()", 7, x::pages);
        Steps.update(x, 0, 0, 0);
        Steps.update(x, 0, 59, 0);
        DUE.answers("insert() of another row in page 7", 700, () -> Steps.insert(x, 2, 1));
        // The last page for a moved row.
        HeapFile y = Steps.withRows(60, 55, 2);
        for (int i = 0; i < 12; i++) {
            Steps.insert(y, 60, i);
        }
        DUE.answers("pages()", 7, y::pages);
        DUE.answers("ifUpdated(2, 3)", 3, () -> y.ifUpdated(2, 3));
        DUE.answers("update(2)", 3, () -> Steps.update(y, 2, 60, 1));
        DUE.answers("placeOf(2)", 700, () -> y.placeOf(2));
        DUE.answers("ifUpdated(1, 56)", 3, () -> y.ifUpdated(1, 56));
        DUE.answers("ifUpdated(1, 57)", -1, () -> y.ifUpdated(1, 57));
    }

    /** Each forecast of a length is compared with what the method itself then does. */
    private static void forecastsAreWhatIsDone() {
        DUE.sentence("Returns how many rows could be inserted, one after the other, with the same length, until no page is "
            + "found.");
        Twins.Recipe[] recipes = {HeapFile::new, Steps::fullPage, Steps::withMoved, Steps::fullFile,
            StorageBoundaryTest::fullFileWithHoles};
        for (Twins.Recipe recipe : recipes) {
            for (int length = 0; length <= 60; length++) {
                HeapFile x = recipe.made();
                int size = length;
                int forecast = x.capacity(length);
                for (int i = 0; i < forecast; i++) {
                    int next = x.ifInserted(length);
                    DUE.answers("insert() of " + length + " as ifInserted() says", next, () -> Steps.insert(x, size, 1));
                    DUE.answers("capacity(" + length + ")", forecast - i - 1, () -> x.capacity(size));
                }
                DUE.answers("ifInserted(" + length + ") after " + forecast, -1, () -> x.ifInserted(size));
                DUE.state("insert() of " + length + " after " + forecast, () -> Steps.insert(x, size, 1));
            }
        }
    }

    /** Pages with one and with several empty slots, an empty page, and a hole without an empty slot. */
    private static HeapFile fullFileWithHoles() {
        HeapFile x = Steps.fullFile();
        x.delete(1);
        x.delete(200);
        x.delete(300);
        x.delete(301);
        Steps.update(x, 400, 7, 1);
        Steps.update(x, 501, 0, 1);
        Steps.insert(x, 3, 1);
        return x;
    }
}

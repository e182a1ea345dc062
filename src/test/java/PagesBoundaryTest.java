/** The sentences of "Pages" that name a boundary, and those of promises 15 to 26 about them. */
public final class PagesBoundaryTest {
    private static final Due DUE = new Due("boundaries of pages");

    public static void main(String[] args) {
        eightPages();
        neverRemoved();
        bytesOfAPage();
        numberOfSlots();
        lowestOffset();
        emptySlot();
        lastSlot();
        lastSlotAfterAMovedRow();
        lastSlotAfterANote();
        allOtherBytes();
        freeBytes();
        gap();
        places();
        scan();
        rowAtPlaces();
        fillFactor();
        DUE.end();
    }

    private static void eightPages() {
        DUE.sentence("There are at most 8 pages, which are numbered from 0.");
        HeapFile x = new HeapFile();
        for (int page = 0; page < 8; page++) {
            int first = 100 * page;
            DUE.bounds("free(" + page + ") of a page that is not there yet", () -> x.free(first / 100));
            DUE.answers("insert() of 60 bytes", first, () -> Steps.insert(x, 60, 1));
            DUE.answers("insert() of 60 bytes more", first + 1, () -> Steps.insert(x, 60, 2));
            DUE.answers("pages()", page + 1, x::pages);
            DUE.answers("free(" + page + ")", 0, () -> x.free(first / 100));
        }
        DUE.state("insert() of 0 bytes in 8 full pages", () -> Steps.insert(x, 0, 0));
        DUE.answers("pages()", 8, x::pages);
        DUE.answers("gap(7)", 0, () -> x.gap(7));
        DUE.bounds("gap(8)", () -> x.gap(8));
        DUE.bounds("free(8)", () -> x.free(8));
        DUE.bounds("compact(8)", () -> x.compact(8));
        DUE.bounds("pageByte(8, 0)", () -> x.pageByte(8, 0));
        DUE.answers("compact(7)", 0, () -> x.compact(7));
        DUE.answers("kind(701)", 1, () -> x.kind(701));
        DUE.answers("kind(702)", 0, () -> x.kind(702));
        DUE.answers("kind(800)", 0, () -> x.kind(800));
    }

    private static void neverRemoved() {
        DUE.sentence("At first there is no page; pages are never removed.");
        HeapFile x = new HeapFile();
        DUE.answers("pages() at first", 0, x::pages);
        Steps.insert(x, 60, 1);
        x.delete(0);
        DUE.answers("pages() without a row", 1, x::pages);
        for (int i = 0; i < 16; i++) {
            Steps.insert(x, 60, i);
        }
        for (int page = 0; page < 8; page++) {
            int number = page;
            x.delete(100 * page);
            x.delete(100 * page + 1);
            DUE.answers("pages()", 8, x::pages);
            DUE.answers("slots of page " + page, "0 128", () -> Steps.slots(x, number));
            DUE.answers("free(" + page + ")", 126, () -> x.free(number));
            DUE.answers("gap(" + page + ")", 126, () -> x.gap(number));
        }
        DUE.answers("bringHome()", 0, x::bringHome);
        DUE.answers("compact(7)", 0, () -> x.compact(7));
        DUE.answers("pages()", 8, x::pages);
        DUE.answers("capacity(60)", 16, () -> x.capacity(60));
        DUE.answers("insert() in the lowest of the empty pages", 0, () -> Steps.insert(x, 0, 0));
        HeapFile y = Steps.withRows(60, 55, 2);
        Steps.update(y, 2, 3, 1);
        DUE.answers("update(2) that empties page 1", 1, () -> Steps.update(y, 2, 2, 1));
        DUE.answers("pages()", 2, y::pages);
        DUE.answers("slots of page 1", "0 128", () -> Steps.slots(y, 1));
    }

    private static void bytesOfAPage() {
        DUE.sentence("A page has 128 bytes, numbered from 0");
        HeapFile x = new HeapFile();
        for (int i = 0; i < 16; i++) {
            Steps.insert(x, 60, 240 + i);
        }
        for (int page = 0; page < 8; page++) {
            int number = page;
            DUE.answers("pageByte(" + page + ", 0)", 2, () -> x.pageByte(number, 0));
            DUE.answers("pageByte(" + page + ", 127)", 240 + 2 * page, () -> x.pageByte(number, 127));
            DUE.bounds("pageByte(" + page + ", -1)", () -> x.pageByte(number, -1));
            DUE.bounds("pageByte(" + page + ", 128)", () -> x.pageByte(number, 128));
        }
        DUE.bounds("pageByte(-1, 0)", () -> x.pageByte(-1, 0));
        DUE.bounds("pageByte(-1, 127)", () -> x.pageByte(-1, 127));
        DUE.bounds("pageByte(-1, 128)", () -> x.pageByte(-1, 128));
        DUE.bounds("pageByte(8, 127)", () -> x.pageByte(8, 127));
    }

    private static void numberOfSlots() {
        DUE.sentence("Byte 0 is the number of slots, 0 to 31.");
        // 31 is never met: a slot is added only when each has a record, and 25 records of 3 bytes fill a page.
        for (int length = 0; length <= 2; length++) {
            HeapFile x = new HeapFile();
            int size = length;
            for (int slot = 0; slot < 25; slot++) {
                DUE.answers("insert() of " + length, slot, () -> Steps.insert(x, size, 255));
                DUE.answers("pageByte(0, 0)", slot + 1, () -> x.pageByte(0, 0));
            }
            DUE.answers("free(0)", 1, () -> x.free(0));
            DUE.answers("gap(0)", 1, () -> x.gap(0));
            DUE.answers("slot 24", "53 3 0", () -> Steps.bytes(x, 0, 50, 53));
            DUE.answers("ifInserted(" + length + ")", 100, () -> x.ifInserted(size));
            DUE.answers("insert() of one more", 100, () -> Steps.insert(x, size, 255));
            DUE.answers("pageByte(0, 0)", 25, () -> x.pageByte(0, 0));
        }
        HeapFile y = Steps.withRows(60);
        y.delete(0);
        DUE.answers("pageByte(0, 0) without a row", 0, () -> y.pageByte(0, 0));
    }

    private static void lowestOffset() {
        DUE.sentence("Byte 1 is the lowest offset of a record, or 128 if the page has no record.");
        HeapFile x = new HeapFile();
        Steps.insert(x, 60, 1);
        DUE.answers("pageByte(0, 1) with a record of 61 bytes", 67, () -> x.pageByte(0, 1));
        Steps.insert(x, 60, 2);
        DUE.answers("pageByte(0, 1) with two", 6, () -> x.pageByte(0, 1));
        x.delete(0);
        DUE.answers("pageByte(0, 1) with the lower one", 6, () -> x.pageByte(0, 1));
        x.delete(1);
        DUE.answers("pageByte(0, 1) without a record", 128, () -> x.pageByte(0, 1));
        HeapFile y = Steps.withRows(0, 0);
        DUE.answers("pageByte(0, 1)", 122, () -> y.pageByte(0, 1));
        y.delete(1);
        DUE.answers("pageByte(0, 1) with the higher one", 125, () -> y.pageByte(0, 1));
    }

    private static void emptySlot() {
        DUE.sentence("A slot is empty if both of its bytes are 0; otherwise a record belongs to it.");
        HeapFile x = Steps.withRows(5, 5, 5);
        x.delete(0);
        x.delete(1);
        DUE.answers("slots", "3 110 0 0 0 0 110 6", () -> Steps.slots(x, 0));
        DUE.answers("kind(0)", 0, () -> x.kind(0));
        DUE.answers("kind(1)", 0, () -> x.kind(1));
        DUE.answers("kind(2)", 1, () -> x.kind(2));
        DUE.answers("isRow(1)", false, () -> x.isRow(1));
        DUE.answers("rows()", 1, x::rows);
        DUE.answers("compact(0)", 1, () -> x.compact(0));
        DUE.answers("slots", "3 122 0 0 0 0 122 6", () -> Steps.slots(x, 0));
    }

    private static void lastSlot() {
        DUE.sentence("The last slot of a page is never empty: when it would be, the number of slots decreases (as often "
            + "as necessary).");
        HeapFile x = Steps.withRows(2, 2, 2, 2, 2, 2);
        int[][] steps = {{5, 5}, {3, 5}, {4, 3}, {0, 3}, {1, 3}};
        for (int[] step : steps) {
            x.delete(step[0]);
            DUE.answers("pageByte(0, 0) after delete(" + step[0] + ")", step[1], () -> x.pageByte(0, 0));
        }
        DUE.answers("slots", "3 119 0 0 0 0 119 3", () -> Steps.slots(x, 0));
        x.delete(2);
        DUE.answers("slots without a row", "0 128", () -> Steps.slots(x, 0));
        DUE.answers("free(0)", 126, () -> x.free(0));
        DUE.answers("insert() in slot 0 again", 0, () -> Steps.insert(x, 2, 1));

        HeapFile y = Steps.withRows(2, 2, 2);
        y.delete(1);
        DUE.answers("run() that deletes the last one", 1, () -> Steps.run(y, "-2"));
        DUE.answers("slots", "1 125 125 3", () -> Steps.slots(y, 0));

        HeapFile z = new HeapFile();
        for (int i = 0; i < 25; i++) {
            Steps.insert(z, 0, 0);
        }
        for (int i = 1; i < 24; i++) {
            z.delete(i);
        }
        DUE.answers("pageByte(0, 0)", 25, () -> z.pageByte(0, 0));
        z.delete(24);
        DUE.answers("slots after 24 slots at once", "1 125 125 3", () -> Steps.slots(z, 0));
    }

    private static void lastSlotAfterAMovedRow() {
        DUE.sentence("The last slot of a page is never empty: when it would be, the number of slots decreases (as often "
            + "as necessary).");
        HeapFile x = Steps.withMoved();
        x.delete(101);
        DUE.answers("slots of 1", "3 100 117 11 0 0 100 6", () -> Steps.slots(x, 1));
        DUE.answers("delete(2)", 3, () -> x.delete(2));
        DUE.answers("slots of 1 after delete(2)", "1 117 117 11", () -> Steps.slots(x, 1));
        x.undo();
        DUE.answers("update(2) that returns", 1, () -> Steps.update(x, 2, 2, 9));
        DUE.answers("slots of 1 after a return", "1 117 117 11", () -> Steps.slots(x, 1));
        x.undo();
        x.delete(0);
        DUE.answers("bringHome()", 1, x::bringHome);
        DUE.answers("slots of 1 after bringHome()", "1 117 117 11", () -> Steps.slots(x, 1));
        x.undo();
        x.undo();
        // Row 100 leaves 56 bytes and the moved row's 6: one too few for 60 bytes.
        Steps.update(x, 100, 57, 1);
        DUE.answers("slots of 1", "3 42 42 58 0 0 100 6", () -> Steps.slots(x, 1));
        DUE.answers("update(2) that moves on", 3, () -> Steps.update(x, 2, 60, 1));
        DUE.answers("slots of 1 after a move", "1 42 42 58", () -> Steps.slots(x, 1));
        DUE.answers("slots of 2", "1 65 65 63", () -> Steps.slots(x, 2));
    }

    private static void lastSlotAfterANote() {
        DUE.sentence("The last slot of a page is never empty: when it would be, the number of slots decreases (as often "
            + "as necessary).");
        HeapFile x = Steps.withMoved();
        DUE.answers("slots of 0", "3 8 67 61 11 56 8 3", () -> Steps.slots(x, 0));
        x.delete(2);
        DUE.answers("slots of 0 after the note", "2 11 67 61 11 56", () -> Steps.slots(x, 0));
        x.undo();
        x.delete(1);
        x.delete(2);
        DUE.answers("slots of 0 after the note and an empty slot", "1 67 67 61", () -> Steps.slots(x, 0));
        x.undo();
        x.delete(0);
        DUE.answers("slots of 0 with the note alone", "3 8 0 0 0 0 8 3", () -> Steps.slots(x, 0));
        x.delete(2);
        DUE.answers("slots of 0 without a record", "0 128", () -> Steps.slots(x, 0));
    }

    private static void allOtherBytes() {
        DUE.sentence("Records do not overlap, and they lie behind the slots. All other bytes are 0.");
        HeapFile x = new HeapFile();
        int draw = 17;
        for (int i = 0; i < 400; i++) {
            draw = 7919 * draw + 104729;
            int dice = draw >>> 16;
            int row = x.rowAt(x.next(dice % 820 - 20));
            Steps.buffer(x, 1 + dice % 5 * (dice / 5 % 12), 255);
            switch (dice % 7) {
                case 0:
                case 1:
                case 2:
                    Due.outcome(x::insert);
                    break;
                case 3:
                case 4:
                    Due.outcome(() -> x.update(row));
                    break;
                case 5:
                    Due.outcome(() -> x.delete(row));
                    break;
                default:
                    x.bringHome();
            }
            for (int page = 0; page < x.pages(); page++) {
                DUE.same("what is wrong in page " + page + " after " + i + " changes", faultOf(x, page), "nothing");
            }
        }
        DUE.same("pages were filled", x.pages() == 8 && x.moves() > 5 && x.returns() > 2 && x.compactions() > 5, true);
    }

    /** What a page's bytes break of the sentences about slots and records. */
    private static String faultOf(HeapFile x, int page) {
        boolean[] used = new boolean[128];
        int slots = x.pageByte(page, 0);
        int lowest = 128;
        for (int slot = 0; slot < slots; slot++) {
            int offset = x.pageByte(page, 2 + 2 * slot);
            int size = x.pageByte(page, 3 + 2 * slot);
            boolean empty = offset == 0 && size == 0;
            if (empty && slot == slots - 1) {
                return "the last slot is empty";
            }
            if (!empty && (size < 3 || offset < 2 + 2 * slots || offset + size > 128)) {
                return "the record of slot " + slot + " does not lie behind the slots";
            }
            for (int i = offset; i < offset + size; i++) {
                if (used[i]) {
                    return "the record of slot " + slot + " overlaps another";
                }
                used[i] = true;
            }
            lowest = empty ? lowest : Math.min(lowest, offset);
        }
        for (int offset = 2 + 2 * slots; offset < 128; offset++) {
            if (!used[offset] && x.pageByte(page, offset) != 0) {
                return "byte " + offset + " is not 0";
            }
        }
        return x.pageByte(page, 1) == lowest ? "nothing" : "byte 1 is not the lowest offset";
    }

    private static void freeBytes() {
        DUE.sentence("The free bytes of a page are 128 - 2 - 2 * (number of slots) - (sum of the sizes of its records).");
        HeapFile x = Steps.withRows(60);
        DUE.answers("free(0) with a row", 63, () -> x.free(0));
        x.delete(0);
        DUE.answers("free(0) of an empty page", 126, () -> x.free(0));
        HeapFile y = Steps.withMoved();
        DUE.answers("free(0) of a full page with a note", 0, () -> y.free(0));
        DUE.answers("free(1) of a page with a moved row", 92, () -> y.free(1));
        y.delete(0);
        DUE.answers("free(0) with an empty slot", 61, () -> y.free(0));
    }

    private static void gap() {
        DUE.sentence("The gap of a page is byte 1 - 2 - 2 * (number of slots).");
        HeapFile x = Steps.withRows(60);
        DUE.answers("gap(0) with a row", 63, () -> x.gap(0));
        x.delete(0);
        DUE.answers("gap(0) of an empty page", 126, () -> x.gap(0));
        HeapFile y = Steps.withMoved();
        DUE.answers("gap(0) of a full page", 0, () -> y.gap(0));
        y.delete(0);
        DUE.answers("gap(0) with a hole", 0, () -> y.gap(0));
        y.compact(0);
        DUE.answers("gap(0) without a hole", 61, () -> y.gap(0));
        y.delete(2);
        DUE.answers("gap(0) with a slot less", 66, () -> y.gap(0));
    }

    private static void places() {
        DUE.sentence("The place of slot s of page p is the number 100 * p + s.");
        HeapFile x = new HeapFile();
        for (int i = 0; i < 200; i++) {
            int row = 100 * (i / 25) + i % 25;
            int length = i % 3;
            DUE.answers("insert()", row, () -> Steps.insert(x, length, 7));
            DUE.answers("placeOf(" + row + ")", row, () -> x.placeOf(row));
        }
        DUE.answers("rows()", 200, x::rows);
        DUE.state("insert() in 8 pages of 25 rows", () -> Steps.insert(x, 0, 0));
        for (int page = 0; page < 8; page++) {
            int first = 100 * page;
            DUE.answers("kind(" + first + ")", 1, () -> x.kind(first));
            DUE.answers("kind(" + (first - 1) + ")", 0, () -> x.kind(first - 1));
            DUE.answers("kind(" + (first + 24) + ")", 1, () -> x.kind(first + 24));
            DUE.answers("kind(" + (first + 25) + ")", 0, () -> x.kind(first + 25));
        }
    }

    private static void scan() {
        DUE.sentence("Returns the lowest place greater than this number with a row at home or a moved row; NONE if there "
            + "is none.");
        HeapFile x = new HeapFile();
        DUE.answers("next(-1) without pages", -1, () -> x.next(-1));
        for (int i = 0; i < 200; i++) {
            Steps.insert(x, 0, 0);
        }
        int[][] due = {{Integer.MIN_VALUE, 0}, {-2, 0}, {-1, 0}, {0, 1}, {23, 24}, {24, 100}, {25, 100}, {99, 100},
            {100, 101}, {624, 700}, {723, 724}, {724, -1}, {725, -1}, {Integer.MAX_VALUE, -1}};
        for (int[] pair : due) {
            DUE.answers("next(" + pair[0] + ")", pair[1], () -> x.next(pair[0]));
        }
        HeapFile y = Steps.withMoved();
        y.delete(0);
        y.delete(100);
        DUE.answers("next(-1) over an empty slot", 1, () -> y.next(-1));
        DUE.answers("next(1) over a note and an empty slot", 101, () -> y.next(1));
        DUE.answers("next(2) from the note", 101, () -> y.next(2));
        DUE.answers("next(101)", 102, () -> y.next(101));
        DUE.answers("next(102) at the end", -1, () -> y.next(102));
        y.delete(1);
        y.delete(101);
        y.delete(2);
        DUE.answers("next(-1) in empty pages", -1, () -> y.next(-1));
    }

    private static void rowAtPlaces() {
        DUE.sentence("Returns the identifier; NONE if there is no such record at this place.");
        HeapFile x = Steps.withMoved();
        int[][] due = {{0, 0}, {1, 1}, {2, -1}, {3, -1}, {99, -1}, {100, 100}, {101, 101}, {102, 2}, {103, -1}, {200, -1},
            {-1, -1}, {-100, -1}, {Integer.MIN_VALUE, -1}, {Integer.MAX_VALUE, -1}};
        for (int[] pair : due) {
            DUE.answers("rowAt(" + pair[0] + ")", pair[1], () -> x.rowAt(pair[0]));
        }
    }

    private static void fillFactor() {
        DUE.sentence("Returns the sum of the sizes of all records, as a double, divided by 128 times the number of pages, "
            + "as a double; 0.0 without pages.");
        HeapFile x = new HeapFile();
        DUE.answers("fillFactor() without pages", 0.0, x::fillFactor);
        for (int pages = 1; pages <= 8; pages++) {
            double full = 122.0 * (pages - 1);
            Steps.insert(x, 60, 1);
            DUE.answers("fillFactor()", (full + 61.0) / (128.0 * pages), x::fillFactor);
            Steps.insert(x, 60, 1);
            DUE.answers("fillFactor()", (full + 122.0) / (128.0 * pages), x::fillFactor);
        }
        HeapFile y = Steps.withRows(0);
        y.delete(0);
        DUE.answers("fillFactor() of an empty page", 0.0, y::fillFactor);
        y.undo();
        y.undo();
        DUE.answers("fillFactor() after undo() of the first page", 0.0, y::fillFactor);
    }
}

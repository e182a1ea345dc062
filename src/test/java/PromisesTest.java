/**
 * One test of its own for each promise of the document: ordinary inputs, edges, wrong inputs.
 * `java PromisesTest 19` runs the test of promise 19 alone.
 */
public final class PromisesTest {
    private static final Due DUE = new Due("promise by promise");

    private static String only = "";
    private static int ran;

    public static void main(String[] args) {
        only = args.length > 0 ? args[0] : "";
        promise(1, "A new object", PromisesTest::newObject);
        promise(2, "append", PromisesTest::append);
        promise(3, "fill", PromisesTest::fill);
        promise(4, "clearBuffer", PromisesTest::clearBuffer);
        promise(5, "insert", PromisesTest::insert);
        promise(6, "update", PromisesTest::update);
        promise(7, "delete", PromisesTest::delete);
        promise(8, "bringHome", PromisesTest::bringHome);
        promise(9, "compact", PromisesTest::compact);
        promise(10, "rows", PromisesTest::rows);
        promise(11, "isRow", PromisesTest::isRow);
        promise(12, "length", PromisesTest::length);
        promise(13, "byteOf", PromisesTest::byteOf);
        promise(14, "placeOf", PromisesTest::placeOf);
        promise(15, "next", PromisesTest::next);
        promise(16, "rowAt", PromisesTest::rowAt);
        promise(17, "pages", PromisesTest::pages);
        promise(18, "pageByte", PromisesTest::pageByte);
        promise(19, "free", PromisesTest::free);
        promise(20, "gap", PromisesTest::gap);
        promise(21, "kind", PromisesTest::kind);
        promise(22, "notes", PromisesTest::notes);
        promise(23, "moves", PromisesTest::moves);
        promise(24, "returns", PromisesTest::returns);
        promise(25, "compactions", PromisesTest::compactions);
        promise(26, "fillFactor", PromisesTest::fillFactor);
        promise(27, "ifInserted", PromisesTest::ifInserted);
        promise(28, "ifUpdated", PromisesTest::ifUpdated);
        promise(29, "greatestAtHome", PromisesTest::greatestAtHome);
        promise(30, "capacity", PromisesTest::capacity);
        promise(31, "firstError", PromisesTest::firstError);
        promise(32, "run", PromisesTest::run);
        promise(33, "undo", PromisesTest::undo);
        promise(34, "savedStates", PromisesTest::savedStates);
        promise(35, "digest", PromisesTest::digest);
        DUE.same("promises with a test", ran, only.isEmpty() ? 35 : 1);
        DUE.end();
    }

    private static void promise(int number, String name, Runnable test) {
        if (only.isEmpty() || only.equals(String.valueOf(number))) {
            DUE.sentence("Promise " + number + ": " + name);
            test.run();
            ran++;
        }
    }

    // ---- 1

    private static void newObject() {
        HeapFile x = new HeapFile();
        DUE.answers("NONE", -1, () -> HeapFile.NONE);
        DUE.answers("pages()", 0, x::pages);
        DUE.answers("rows()", 0, x::rows);
        DUE.answers("notes()", 0, x::notes);
        DUE.answers("moves()", 0, x::moves);
        DUE.answers("returns()", 0, x::returns);
        DUE.answers("compactions()", 0, x::compactions);
        DUE.answers("savedStates()", 0, x::savedStates);
        DUE.answers("firstError()", 0, x::firstError);
        DUE.answers("clearBuffer()", 0, x::clearBuffer);
        DUE.answers("next(-1)", -1, () -> x.next(-1));
        DUE.bounds("free(0)", () -> x.free(0));
        DUE.bounds("length(0)", () -> x.length(0));
        DUE.state("undo()", x::undo);
        HeapFile other = new HeapFile();
        x.append(7);
        x.insert();
        x.append(8);
        DUE.answers("pages() of another object", 0, other::pages);
        DUE.answers("savedStates() of another object", 0, other::savedStates);
        DUE.answers("clearBuffer() of another object", 0, other::clearBuffer);
    }

    // ---- 2 to 4: buffer

    private static void append() {
        HeapFile x = new HeapFile();
        DUE.answers("append(0)", 1, () -> x.append(0));
        DUE.answers("append(255)", 2, () -> x.append(255));
        for (int value : new int[] {-1, 256, Integer.MIN_VALUE, Integer.MAX_VALUE}) {
            DUE.argument("append(" + value + ")", () -> x.append(value));
        }
        for (int n = 3; n <= 60; n++) {
            int value = n;
            DUE.answers("append(" + n + ")", n, () -> x.append(value));
        }
        DUE.state("append(0) to 60 bytes", () -> x.append(0));
        DUE.argument("append(256) to 60 bytes", () -> x.append(256));
        DUE.argument("append(-1) to 60 bytes", () -> x.append(-1));
        x.insert();
        DUE.same("the bytes", Steps.rowOf(x, 0), "0 255 " + Steps.counting(58, 3));
    }

    private static void fill() {
        HeapFile x = new HeapFile();
        DUE.answers("fill(1, 255)", 1, () -> x.fill(1, 255));
        DUE.answers("fill(3, 0)", 4, () -> x.fill(3, 0));
        for (int wrong : new int[] {0, -1, 61, Integer.MIN_VALUE, Integer.MAX_VALUE}) {
            DUE.argument("fill(" + wrong + ", 5)", () -> x.fill(wrong, 5));
        }
        for (int wrong : new int[] {-1, 256, Integer.MIN_VALUE, Integer.MAX_VALUE}) {
            DUE.argument("fill(2, " + wrong + ")", () -> x.fill(2, wrong));
        }
        DUE.state("fill(57, 5) to 4 bytes", () -> x.fill(57, 5));
        DUE.state("fill(60, 5) to 4 bytes", () -> x.fill(60, 5));
        DUE.argument("fill(61, 5) to 4 bytes", () -> x.fill(61, 5));
        DUE.argument("fill(60, 256) to 4 bytes", () -> x.fill(60, 256));
        DUE.answers("fill(56, 9)", 60, () -> x.fill(56, 9));
        DUE.state("fill(1, 9) to 60 bytes", () -> x.fill(1, 9));
        DUE.argument("fill(0, 9) to 60 bytes", () -> x.fill(0, 9));
        x.insert();
        DUE.same("the bytes", Steps.rowOf(x, 0), "255 0 0 0" + " 9".repeat(56));
        DUE.answers("fill(60, 255) to no byte", 60, () -> x.fill(60, 255));
    }

    private static void clearBuffer() {
        HeapFile x = new HeapFile();
        x.fill(59, 1);
        x.append(2);
        DUE.answers("clearBuffer()", 60, x::clearBuffer);
        DUE.answers("clearBuffer() again", 0, x::clearBuffer);
        DUE.answers("append(3)", 1, () -> x.append(3));
        x.insert();
        DUE.same("the bytes", Steps.rowOf(x, 0), "3");
        DUE.answers("clearBuffer() after insert()", 0, x::clearBuffer);
        DUE.answers("savedStates()", 1, x::savedStates);
    }

    // ---- 5 to 9: rows

    private static void insert() {
        HeapFile x = new HeapFile();
        DUE.answers("insert() of 0 bytes", 0, x::insert);
        DUE.answers("insert() of 60 bytes", 1, () -> Steps.insert(x, 60, 50));
        // 126 - 2 * 2 - 3 - 61 = 58 bytes are free: one less than a row of 56 bytes and its slot take.
        DUE.answers("insert() of 56 bytes", 100, () -> Steps.insert(x, 56, 51));
        DUE.answers("insert() of 55 bytes", 2, () -> Steps.insertCounting(x, 55, 60));
        DUE.answers("clearBuffer()", 0, x::clearBuffer);
        DUE.same("slots of page 0", Steps.slots(x, 0), "3 8 125 3 64 61 8 56");
        DUE.same("row 0", Steps.recordAt(x, 0), "4 0 0");
        DUE.same("row 2", Steps.recordAt(x, 2), "1 " + Steps.counting(55, 60));
        x.delete(0);
        DUE.answers("insert() into the empty slot", 0, () -> Steps.insert(x, 1, 255));
        DUE.same("row 0", Steps.recordAt(x, 0), "5 255 0");
        DUE.answers("savedStates()", 6, x::savedStates);
        x.undo();
        DUE.answers("isRow(0) after undo()", false, () -> x.isRow(0));
        HeapFile full = Steps.fullFile();
        Steps.buffer(full, 1, 9);
        long before = full.digest();
        DUE.state("insert() into a full file", full::insert);
        DUE.answers("digest()", before, full::digest);
        DUE.answers("clearBuffer()", 1, full::clearBuffer);
    }

    private static void update() {
        HeapFile x = Steps.withMoved();
        DUE.answers("update(0) with 60 bytes", 1, () -> Steps.update(x, 0, 60, 70));
        DUE.answers("update(2) with 60 bytes", 2, () -> Steps.update(x, 2, 60, 71));
        DUE.answers("placeOf(2)", 102, () -> x.placeOf(2));
        // Page 1 has 126 - 6 - 11 - 11 - 63 = 35 free bytes: a record of 32 bytes and its slot do not take more.
        DUE.answers("update(1) with 56 bytes", 3, () -> Steps.update(x, 1, 56, 72));
        DUE.answers("placeOf(1)", 200, () -> x.placeOf(1));
        DUE.answers("update(2) with 2 bytes", 1, () -> Steps.updateCounting(x, 2, 2, 80));
        DUE.same("row 2 at home", Steps.recordAt(x, 2), "1 80 81");
        DUE.same("the note of row 1", Steps.recordAt(x, 1), "2 2 0");
        DUE.same("the moved row 1", Steps.recordAt(x, 200), "3 0 1" + " 72".repeat(56));
        DUE.answers("clearBuffer()", 0, x::clearBuffer);
        x.undo();
        DUE.answers("placeOf(2) after undo()", 102, () -> x.placeOf(2));
        for (int row : new int[] {102, 200, 3, 103, 800, -1, Integer.MIN_VALUE, Integer.MAX_VALUE}) {
            DUE.bounds("update(" + row + ")", () -> x.update(row));
        }
        HeapFile full = Steps.fullFile();
        Steps.buffer(full, 3, 9);
        long before = full.digest();
        DUE.state("update(2) with 3 bytes in a full file", () -> full.update(2));
        DUE.bounds("update(3) with 3 bytes in a full file", () -> full.update(3));
        DUE.answers("digest()", before, full::digest);
        DUE.answers("clearBuffer()", 3, full::clearBuffer);
    }

    private static void delete() {
        HeapFile x = Steps.withMoved();
        x.append(9);
        for (int row : new int[] {102, 3, 103, 200, 800, -1, Integer.MIN_VALUE, Integer.MAX_VALUE}) {
            DUE.bounds("delete(" + row + ")", () -> x.delete(row));
        }
        DUE.answers("delete(2), a moved row", 3, () -> x.delete(2));
        DUE.same("slots of page 0", Steps.slots(x, 0), "2 11 67 61 11 56");
        DUE.same("slots of page 1", Steps.slots(x, 1), "2 106 117 11 106 11");
        DUE.bounds("delete(2) again", () -> x.delete(2));
        long before = x.digest();
        DUE.answers("delete(0)", 60, () -> x.delete(0));
        x.undo();
        DUE.answers("digest() after undo()", before, x::digest);
        x.delete(0);
        DUE.same("slots of page 0", Steps.slots(x, 0), "2 11 0 0 11 56");
        DUE.same("bytes of row 0", Steps.bytes(x, 0, 67, 128), "0" + " 0".repeat(60));
        DUE.answers("delete(1)", 55, () -> x.delete(1));
        DUE.same("page 0", Steps.bytes(x, 0, 0, 128), "0 128" + " 0".repeat(126));
        DUE.answers("clearBuffer()", 1, x::clearBuffer);
        DUE.answers("delete(0) of a row of 0 bytes", 0, () -> Steps.withRows(0).delete(0));
        DUE.bounds("delete(0) without pages", () -> new HeapFile().delete(0));
    }

    /**
     * Page 0 has the rows 0 (60 bytes) and 1 (47 bytes), the notes 2 and 3, and 3 free bytes; row 3 (4 bytes) is at 100,
     * row 2 (5 bytes) at 101. A note's 3 bytes and the 3 free ones are enough for one of the two rows.
     */
    private static HeapFile withTwoMoved() {
        HeapFile x = Steps.withRows(60, 49, 3, 2);
        Steps.update(x, 3, 4, 43);
        Steps.update(x, 2, 5, 42);
        Steps.update(x, 1, 47, 41);
        return x;
    }

    private static void bringHome() {
        HeapFile x = withTwoMoved();
        x.append(9);
        DUE.answers("bringHome()", 1, x::bringHome);
        DUE.answers("placeOf(2)", 2, () -> x.placeOf(2));
        DUE.answers("placeOf(3)", 100, () -> x.placeOf(3));
        DUE.same("row 2 at home", Steps.recordAt(x, 2), "1 42 42 42 42 42");
        DUE.same("slots of page 1", Steps.slots(x, 1), "1 121 121 7");
        DUE.answers("bringHome() without room", 0, x::bringHome);
        x.delete(0);
        DUE.answers("bringHome()", 1, x::bringHome);
        DUE.same("row 3 at home", Steps.recordAt(x, 3), "1 43 43 43 43");
        DUE.same("page 1", Steps.bytes(x, 1, 0, 128), "0 128" + " 0".repeat(126));
        DUE.answers("clearBuffer()", 1, x::clearBuffer);
        x.undo();
        DUE.answers("placeOf(3) after undo()", 100, () -> x.placeOf(3));
        HeapFile none = new HeapFile();
        DUE.answers("bringHome() without pages", 0, none::bringHome);
        DUE.answers("savedStates()", 1, none::savedStates);
        HeapFile both = withTwoMoved();
        both.delete(1);
        DUE.answers("bringHome() with room for both", 2, both::bringHome);
    }

    private static void compact() {
        HeapFile x = Steps.withRows(5, 6, 7);
        x.append(9);
        DUE.answers("compact(0) in order", 0, () -> x.compact(0));
        x.delete(1);
        DUE.same("slots", Steps.slots(x, 0), "3 107 122 6 0 0 107 8");
        DUE.answers("compact(0) with a hole", 1, () -> x.compact(0));
        DUE.same("slots", Steps.slots(x, 0), "3 114 122 6 0 0 114 8");
        DUE.same("records", Steps.bytes(x, 0, 106, 128), "0 0 0 0 0 0 0 0 1 12 12 12 12 12 12 12 1 10 10 10 10 10");
        DUE.answers("compactions()", 2, x::compactions);
        Steps.update(x, 0, 4, 50);
        DUE.answers("compact(0) of two that change their offset", 2, () -> x.compact(0));
        DUE.same("slots", Steps.slots(x, 0), "3 115 123 5 0 0 115 8");
        x.undo();
        DUE.same("slots after undo()", Steps.slots(x, 0), "3 109 109 5 0 0 114 8");
        for (int page : new int[] {1, 8, -1, Integer.MIN_VALUE, Integer.MAX_VALUE}) {
            DUE.bounds("compact(" + page + ")", () -> x.compact(page));
        }
        DUE.bounds("compact(0) without pages", () -> new HeapFile().compact(0));
    }

    // ---- 10 to 16: queries about rows

    private static void rows() {
        HeapFile x = Steps.withMoved();
        DUE.answers("rows() with a moved row", 5, x::rows);
        x.delete(0);
        DUE.answers("rows() with an empty slot", 4, x::rows);
        x.delete(2);
        DUE.answers("rows() without the moved row", 3, x::rows);
        HeapFile most = new HeapFile();
        for (int n = 1; n <= 200; n++) {
            most.insert();
        }
        DUE.answers("rows() of 8 pages with 25 rows each", 200, most::rows);
        DUE.answers("rows() without pages", 0, () -> new HeapFile().rows());
    }

    private static void isRow() {
        HeapFile x = Steps.withMoved();
        for (int row : new int[] {0, 1, 2, 100, 101}) {
            DUE.answers("isRow(" + row + ")", true, () -> x.isRow(row));
        }
        for (int row : new int[] {3, 99, 102, 103, 200, 799, 800, -1, -100, Integer.MIN_VALUE, Integer.MAX_VALUE}) {
            DUE.answers("isRow(" + row + ")", false, () -> x.isRow(row));
        }
        x.delete(0);
        DUE.answers("isRow(0) after delete(0)", false, () -> x.isRow(0));
        DUE.answers("isRow(0) without pages", false, () -> new HeapFile().isRow(0));
    }

    private static void length() {
        for (int n = 0; n <= 60; n++) {
            HeapFile x = Steps.withRows(n);
            DUE.answers("length(0)", n, () -> x.length(0));
        }
        HeapFile x = Steps.withMoved();
        DUE.answers("length(2), a moved row", 3, () -> x.length(2));
        Steps.update(x, 2, 60, 9);
        DUE.answers("length(2), a moved row", 60, () -> x.length(2));
        for (int row : new int[] {3, 102, 200, 800, -1, Integer.MIN_VALUE, Integer.MAX_VALUE}) {
            DUE.bounds("length(" + row + ")", () -> x.length(row));
        }
    }

    private static void byteOf() {
        HeapFile x = Steps.withMoved();
        Steps.updateCounting(x, 2, 60, 196);
        Steps.updateCounting(x, 0, 60, 0);
        Steps.update(x, 100, 1, 0);
        Steps.update(x, 101, 0, 0);
        for (int i = 0; i < 60; i++) {
            int index = i;
            DUE.answers("byteOf(2, " + i + ") of a moved row", 196 + i, () -> x.byteOf(2, index));
            DUE.answers("byteOf(0, " + i + ")", i, () -> x.byteOf(0, index));
        }
        DUE.answers("byteOf(100, 0)", 0, () -> x.byteOf(100, 0));
        for (int index : new int[] {-1, 60, Integer.MIN_VALUE, Integer.MAX_VALUE}) {
            for (int row : new int[] {0, 2, 100, 101}) {
                DUE.bounds("byteOf(" + row + ", " + index + ")", () -> x.byteOf(row, index));
            }
        }
        DUE.bounds("byteOf(100, 1) of 1 byte", () -> x.byteOf(100, 1));
        DUE.bounds("byteOf(101, 0) of 0 bytes", () -> x.byteOf(101, 0));
        for (int row : new int[] {3, 102, 200, 800, -1, Integer.MIN_VALUE, Integer.MAX_VALUE}) {
            DUE.bounds("byteOf(" + row + ", 0)", () -> x.byteOf(row, 0));
        }
    }

    private static void placeOf() {
        HeapFile x = Steps.withMoved();
        for (int[] pair : new int[][] {{0, 0}, {1, 1}, {2, 102}, {100, 100}, {101, 101}}) {
            DUE.answers("placeOf(" + pair[0] + ")", pair[1], () -> x.placeOf(pair[0]));
        }
        for (int row : new int[] {3, 102, 200, 800, -1, Integer.MIN_VALUE, Integer.MAX_VALUE}) {
            DUE.bounds("placeOf(" + row + ")", () -> x.placeOf(row));
        }
        Steps.update(x, 2, 2, 9);
        DUE.answers("placeOf(2) after its return", 2, () -> x.placeOf(2));
    }

    private static void next() {
        HeapFile x = Steps.withMoved();
        int[][] due = {{-1, 0}, {0, 1}, {1, 100}, {2, 100}, {99, 100}, {100, 101}, {101, 102}, {102, -1}, {799, -1},
            {-2, 0}, {Integer.MIN_VALUE, 0}, {Integer.MAX_VALUE, -1}};
        for (int[] pair : due) {
            DUE.answers("next(" + pair[0] + ")", pair[1], () -> x.next(pair[0]));
        }
        x.delete(0);
        DUE.answers("next(-1) over an empty slot", 1, () -> x.next(-1));
        x.delete(1);
        x.delete(2);
        DUE.answers("next(-1) over an empty page", 100, () -> x.next(-1));
        DUE.answers("next(-1) without pages", -1, () -> new HeapFile().next(-1));
    }

    private static void rowAt() {
        HeapFile x = Steps.withMoved();
        int[][] due = {{0, 0}, {1, 1}, {2, -1}, {3, -1}, {100, 100}, {101, 101}, {102, 2}, {103, -1}, {200, -1},
            {800, -1}, {-1, -1}, {Integer.MIN_VALUE, -1}, {Integer.MAX_VALUE, -1}};
        for (int[] pair : due) {
            DUE.answers("rowAt(" + pair[0] + ")", pair[1], () -> x.rowAt(pair[0]));
        }
        x.delete(100);
        DUE.answers("rowAt(100), an empty slot", -1, () -> x.rowAt(100));
        DUE.answers("rowAt(0) without pages", -1, () -> new HeapFile().rowAt(0));
    }

    // ---- 17 to 26: queries about pages

    private static void pages() {
        HeapFile x = new HeapFile();
        DUE.answers("pages()", 0, x::pages);
        for (int n = 1; n <= 8; n++) {
            Steps.insert(x, 60, n);
            Steps.insert(x, 60, n);
            DUE.answers("pages()", n, x::pages);
        }
        x.undo();
        x.undo();
        DUE.answers("pages() after undo()", 7, x::pages);
        x.delete(600);
        x.delete(601);
        DUE.answers("pages() with an empty page", 7, x::pages);
    }

    private static void pageByte() {
        HeapFile x = Steps.withRows(2, 1);
        Steps.insert(x, 60, 255);
        Steps.insert(x, 60, 7);
        StringBuilder page = new StringBuilder("3 61 125 3 122 3 61 61");
        page.append(" 0".repeat(53)).append(" 1").append(" 255".repeat(60)).append(" 5 11 0 1 10 10");
        DUE.same("page 0", Steps.bytes(x, 0, 0, 128), page.toString());
        DUE.answers("pageByte(1, 0)", 1, () -> x.pageByte(1, 0));
        DUE.answers("pageByte(1, 127)", 7, () -> x.pageByte(1, 127));
        for (int wrong : new int[] {-1, 128, Integer.MIN_VALUE, Integer.MAX_VALUE}) {
            DUE.bounds("pageByte(0, " + wrong + ")", () -> x.pageByte(0, wrong));
            DUE.bounds("pageByte(" + wrong + ", 0)", () -> x.pageByte(wrong, 0));
        }
        DUE.bounds("pageByte(2, 0)", () -> x.pageByte(2, 0));
        DUE.bounds("pageByte(0, 0) without pages", () -> new HeapFile().pageByte(0, 0));
    }

    private static void free() {
        HeapFile x = Steps.withRows(9, 8, 7);
        DUE.answers("free(0)", 126 - 6 - 10 - 9 - 8, () -> x.free(0));
        x.delete(1);
        DUE.answers("free(0) with an empty slot", 126 - 6 - 10 - 8, () -> x.free(0));
        x.delete(2);
        DUE.answers("free(0) with one slot", 126 - 2 - 10, () -> x.free(0));
        x.delete(0);
        DUE.answers("free(0) of an empty page", 126, () -> x.free(0));
        HeapFile y = Steps.withMoved();
        DUE.answers("free(0) of a full page", 0, () -> y.free(0));
        DUE.answers("free(1)", 126 - 6 - 11 - 11 - 6, () -> y.free(1));
        for (int page : new int[] {2, -1, 8, Integer.MIN_VALUE, Integer.MAX_VALUE}) {
            DUE.bounds("free(" + page + ")", () -> y.free(page));
        }
        DUE.bounds("free(0) without pages", () -> new HeapFile().free(0));
    }

    private static void gap() {
        HeapFile x = Steps.withRows(9, 8, 7);
        DUE.answers("gap(0)", 101 - 2 - 6, () -> x.gap(0));
        x.delete(1);
        DUE.answers("gap(0) with a hole", 101 - 2 - 6, () -> x.gap(0));
        x.delete(2);
        DUE.answers("gap(0) with one slot", 118 - 2 - 2, () -> x.gap(0));
        x.delete(0);
        DUE.answers("gap(0) of an empty page", 126, () -> x.gap(0));
        HeapFile y = Steps.withMoved();
        DUE.answers("gap(0) of a full page", 0, () -> y.gap(0));
        DUE.answers("gap(1)", 100 - 2 - 6, () -> y.gap(1));
        for (int page : new int[] {2, -1, 8, Integer.MIN_VALUE, Integer.MAX_VALUE}) {
            DUE.bounds("gap(" + page + ")", () -> y.gap(page));
        }
        DUE.bounds("gap(0) without pages", () -> new HeapFile().gap(0));
    }

    private static void kind() {
        HeapFile x = Steps.withMoved();
        Steps.update(x, 100, 0, 0);
        Steps.update(x, 101, 1, 2);
        x.delete(0);
        int[][] due = {{0, 0}, {1, 1}, {2, 2}, {3, 0}, {99, 0}, {100, 1}, {101, 1}, {102, 3}, {103, 0}, {200, 0},
            {800, 0}, {-1, 0}, {-100, 0}, {Integer.MIN_VALUE, 0}, {Integer.MAX_VALUE, 0}};
        for (int[] pair : due) {
            DUE.answers("kind(" + pair[0] + ")", pair[1], () -> x.kind(pair[0]));
        }
        DUE.answers("kind(0) without pages", 0, () -> new HeapFile().kind(0));
    }

    private static void notes() {
        DUE.answers("notes() without pages", 0, () -> new HeapFile().notes());
        HeapFile x = withTwoMoved();
        DUE.answers("notes()", 2, x::notes);
        x.delete(3);
        DUE.answers("notes() after delete(3)", 1, x::notes);
        x.bringHome();
        DUE.answers("notes() after bringHome()", 0, x::notes);
        x.undo();
        DUE.answers("notes() after undo()", 1, x::notes);
    }

    private static void moves() {
        HeapFile x = Steps.withRows(60, 55, 2);
        DUE.answers("moves()", 0, x::moves);
        Steps.update(x, 2, 2, 1);
        DUE.answers("moves() after a change at home", 0, x::moves);
        Steps.update(x, 2, 3, 1);
        DUE.answers("moves() after a move", 1, x::moves);
        Steps.update(x, 2, 9, 1);
        DUE.answers("moves() after a change where the row is", 1, x::moves);
        Steps.insert(x, 60, 2);
        Steps.insert(x, 40, 2);
        DUE.answers("update(2)", 3, () -> Steps.update(x, 2, 30, 1));
        DUE.answers("moves() after the move of a moved row", 2, x::moves);
        Steps.update(x, 2, 1, 1);
        DUE.answers("moves() after a return", 2, x::moves);
        DUE.bounds("update(3)", () -> x.update(3));
        x.undo();
        x.undo();
        DUE.answers("moves() after undo()", 1, x::moves);
    }

    private static void returns() {
        HeapFile x = withTwoMoved();
        DUE.answers("returns()", 0, x::returns);
        Steps.update(x, 3, 7, 1);
        DUE.answers("returns() after a change where the row is", 0, x::returns);
        DUE.answers("update(3)", 1, () -> Steps.update(x, 3, 1, 1));
        DUE.answers("returns() after update()", 1, x::returns);
        Steps.update(x, 3, 2, 1);
        DUE.answers("returns() after a change at home", 1, x::returns);
        DUE.answers("bringHome()", 1, x::bringHome);
        DUE.answers("returns() after bringHome()", 2, x::returns);
        x.bringHome();
        DUE.answers("returns() after bringHome() of none", 2, x::returns);
        x.undo();
        x.undo();
        DUE.answers("returns() after undo()", 1, x::returns);
    }

    private static void compactions() {
        HeapFile x = Steps.withRows(50, 50, 10);
        DUE.answers("compactions()", 0, x::compactions);
        x.delete(0);
        // Of 58 free bytes, 7 are in front of the lowest record.
        DUE.answers("insert() into the gap", 0, () -> Steps.insert(x, 6, 1));
        DUE.answers("compactions() after that", 0, x::compactions);
        DUE.answers("insert() that compacts", 3, () -> Steps.insert(x, 6, 2));
        DUE.answers("compactions() after that", 1, x::compactions);
        DUE.answers("compact(0) that moves the last one", 0, () -> x.compact(0));
        DUE.answers("compactions() after that", 2, x::compactions);
        DUE.answers("ifInserted(29)", 4, () -> x.ifInserted(29));
        DUE.answers("compactions() after a forecast", 2, x::compactions);
        x.undo();
        x.undo();
        DUE.answers("compactions() after undo()", 0, x::compactions);
    }

    private static void fillFactor() {
        DUE.answers("fillFactor() without pages", 0.0, () -> new HeapFile().fillFactor());
        DUE.answers("fillFactor() of one page", 61.0 / 128.0, () -> Steps.withRows(60).fillFactor());
        HeapFile x = Steps.withMoved();
        DUE.answers("fillFactor() with a moved row", (61 + 56 + 3 + 11 + 11 + 6) / 256.0, x::fillFactor);
        Steps.insert(x, 60, 1);
        Steps.insert(x, 60, 1);
        DUE.answers("fillFactor() of three pages", (61 + 56 + 3 + 11 + 11 + 6 + 61 + 61) / 384.0, x::fillFactor);
        HeapFile y = Steps.withRows(5);
        y.delete(0);
        DUE.answers("fillFactor() of an empty page", 0.0, y::fillFactor);
    }

    // ---- 27 to 30: forecasts

    private static void ifInserted() {
        HeapFile x = Steps.withRows(60, 40);
        // 126 - 4 - 61 - 41 = 20 bytes are free: a row of 17 bytes and a new slot take all of them.
        for (int[] pair : new int[][] {{0, 2}, {1, 2}, {17, 2}, {18, 100}, {60, 100}}) {
            DUE.answers("ifInserted(" + pair[0] + ")", pair[1], () -> x.ifInserted(pair[0]));
        }
        x.delete(0);
        // 81 bytes are free, and the slot is there.
        DUE.answers("ifInserted(60)", 0, () -> x.ifInserted(60));
        Steps.insert(x, 59, 1);
        Steps.insert(x, 14, 1);
        DUE.answers("free(0)", 4, () -> x.free(0));
        DUE.answers("ifInserted(0) with 4 free bytes", 100, () -> x.ifInserted(0));
        for (int length : new int[] {-1, 61, Integer.MIN_VALUE, Integer.MAX_VALUE}) {
            DUE.argument("ifInserted(" + length + ")", () -> x.ifInserted(length));
        }
        HeapFile full = Steps.fullFile();
        DUE.answers("ifInserted(0) in a full file", -1, () -> full.ifInserted(0));
        DUE.argument("ifInserted(61) in a full file", () -> full.ifInserted(61));
        DUE.answers("ifInserted(60) without pages", 0, () -> new HeapFile().ifInserted(60));
        Twins.answered(DUE, "ifInserted(60)", Steps::withMoved, 103, y -> y.ifInserted(60));
    }

    private static void ifUpdated() {
        HeapFile x = Steps.withMoved();
        // Row 1 has its own 56 bytes at home; row 2 its note's 3 there, and 92 + 6 in page 1.
        int[][] due = {{1, 0, 1}, {1, 55, 1}, {1, 56, 3}, {1, 60, 3}, {2, 0, 1}, {2, 2, 1}, {2, 3, 2}, {2, 60, 2},
            {100, 60, 1}};
        for (int[] row : due) {
            DUE.answers("ifUpdated(" + row[0] + ", " + row[1] + ")", row[2], () -> x.ifUpdated(row[0], row[1]));
        }
        for (int length : new int[] {-1, 61, Integer.MIN_VALUE, Integer.MAX_VALUE}) {
            DUE.argument("ifUpdated(1, " + length + ")", () -> x.ifUpdated(1, length));
            for (int row : new int[] {3, 102, 800, -1, Integer.MIN_VALUE, Integer.MAX_VALUE}) {
                DUE.bounds("ifUpdated(" + row + ", " + length + ")", () -> x.ifUpdated(row, length));
                DUE.bounds("ifUpdated(" + row + ", 2)", () -> x.ifUpdated(row, 2));
            }
        }
        HeapFile full = Steps.fullFile();
        DUE.answers("ifUpdated(2, 3) in a full file", -1, () -> full.ifUpdated(2, 3));
        DUE.answers("ifUpdated(2, 2) in a full file", 1, () -> full.ifUpdated(2, 2));
        Twins.answered(DUE, "ifUpdated(1, 60)", Steps::withMoved, 3, y -> y.ifUpdated(1, 60));
    }

    private static void greatestAtHome() {
        HeapFile x = Steps.withMoved();
        // The room is the free bytes and the record's own: 61, 56 and the note's 3.
        for (int[] pair : new int[][] {{0, 60}, {1, 55}, {2, 2}, {100, 60}}) {
            DUE.answers("greatestAtHome(" + pair[0] + ")", pair[1], () -> x.greatestAtHome(pair[0]));
        }
        Steps.update(x, 0, 50, 1);
        DUE.answers("greatestAtHome(2) of a moved row", 12, () -> x.greatestAtHome(2));
        DUE.answers("update(2) with 13 bytes", 2, () -> Steps.update(x, 2, 13, 1));
        DUE.answers("update(2) with 12 bytes", 1, () -> Steps.update(x, 2, 12, 1));
        for (int row : new int[] {3, 102, 200, 800, -1, Integer.MIN_VALUE, Integer.MAX_VALUE}) {
            DUE.bounds("greatestAtHome(" + row + ")", () -> x.greatestAtHome(row));
        }
        Twins.answered(DUE, "greatestAtHome(1)", Steps::withMoved, 55, y -> y.greatestAtHome(1));
    }

    private static void capacity() {
        HeapFile x = Steps.withRows(60, 40);
        x.delete(0);
        // Page 0 has 81 free bytes and one empty slot: after a record of 41 bytes there, 40 are too few for 41 and a slot.
        for (int[] pair : new int[][] {{60, 1 + 14}, {40, 1 + 14}, {38, 2 + 7 * 3}, {0, 1 + 15 + 7 * 25}}) {
            DUE.answers("capacity(" + pair[0] + ")", pair[1], () -> x.capacity(pair[0]));
        }
        DUE.answers("capacity(0) without pages", 200, () -> new HeapFile().capacity(0));
        DUE.answers("capacity(2) without pages", 200, () -> new HeapFile().capacity(2));
        DUE.answers("capacity(3) without pages", 168, () -> new HeapFile().capacity(3));
        DUE.answers("capacity(60) without pages", 16, () -> new HeapFile().capacity(60));
        DUE.answers("capacity(0) of a full file", 0, () -> Steps.fullFile().capacity(0));
        for (int length : new int[] {-1, 61, Integer.MIN_VALUE, Integer.MAX_VALUE}) {
            DUE.argument("capacity(" + length + ")", () -> x.capacity(length));
        }
        Twins.answered(DUE, "capacity(60)", Steps::withMoved, 1 + 6 * 2, y -> y.capacity(60));
    }

    // ---- 31, 32: order text

    private static void firstError() {
        HeapFile x = new HeapFile();
        Object[][] due = {
            {"", 0}, {"+", 1}, {"+abc", 4}, {"+;", 1}, {"+A", 1}, {"+a1", 2}, {"+z{", 2}, {"+a;+b;^", 7}, {"+a;;", 3}, {";", 0},
            {"a", 0}, {"=", 1}, {"=:", 1}, {"=0:", 3}, {"=0;", 2}, {"=00", 2}, {"=799:a", 6}, {"=800", 3}, {"=80:a", 5}, {"=0:a;", 5},
            {"=:a", 1}, {"-", 1}, {"-0", 2}, {"-01", 2}, {"-;", 1}, {"-799", 4}, {"-7999", 4}, {"-8;-9", 5}, {"-1:", 2}, {"^", 1},
            {"^^", 1}, {"^;^", 3}, {"^a", 1}, {"-1 ", 2}, {"+" + "a".repeat(40), 41}, {"+" + "a".repeat(41), 41},
            {"+" + "a".repeat(40) + ";=12:" + "b".repeat(13), 59}, {"=5:" + "a".repeat(41), 43}};
        for (Object[] pair : due) {
            DUE.same("firstError() of " + pair[0], Steps.firstError(x, (String) pair[0]), pair[1]);
        }
        Steps.buffer(x, 3, 200);
        DUE.answers("firstError() of bytes that are no sign", 0, x::firstError);
        DUE.answers("clearBuffer()", 3, x::clearBuffer);
    }

    private static void run() {
        HeapFile x = new HeapFile();
        DUE.answers("run() of inserts", 3, () -> Steps.run(x, "+abc;+de;+f"));
        DUE.same("row 0", Steps.rowOf(x, 0), "97 98 99");
        DUE.answers("clearBuffer()", 0, x::clearBuffer);
        DUE.answers("savedStates()", 1, x::savedStates);
        DUE.answers("run() of an update, a delete and the way home", 3, () -> Steps.run(x, "=0:zyxw;-1;^"));
        DUE.same("row 0", Steps.rowOf(x, 0), "122 121 120 119");
        DUE.answers("isRow(1)", false, () -> x.isRow(1));
        DUE.answers("run() up to a row that is none", 1, () -> Steps.run(x, "-2;=2:a;+b"));
        DUE.answers("rows()", 1, x::rows);
        DUE.answers("run() of no order", 0, () -> Steps.run(x, "-2;+b"));
        DUE.answers("clearBuffer()", 0, x::clearBuffer);
        DUE.answers("savedStates()", 4, x::savedStates);
        for (String text : new String[] {"", "+", "+a;", "=0", "=0:", "-", "a", "+a;;+b", "-01", "^^"}) {
            Steps.buffer(x, text);
            DUE.argument("run() of " + text, x::run);
            DUE.answers("clearBuffer() after " + text, text.length(), x::clearBuffer);
        }
        DUE.answers("savedStates()", 4, x::savedStates);
        x.undo();
        x.undo();
        DUE.answers("rows() after undo()", 2, x::rows);
        HeapFile full = Steps.fullFile();
        DUE.answers("run() up to a row without a page", 1, () -> Steps.run(full, "^;+a;-0"));
        DUE.answers("run() up to a row that cannot be changed", 1, () -> Steps.run(full, "=2:aa;=2:aaa;-0"));
        DUE.answers("isRow(0)", true, () -> full.isRow(0));
        HeapFile moved = withTwoMoved();
        DUE.answers("run() of ^", 1, () -> Steps.run(moved, "^"));
        DUE.answers("returns()", 1, moved::returns);
    }

    // ---- 33 to 35: undo

    private static void undo() {
        HeapFile x = new HeapFile();
        DUE.state("undo() without a saved state", x::undo);
        long[] digests = new long[10];
        for (int i = 0; i < 10; i++) {
            digests[i] = x.digest();
            Steps.insert(x, 20 + i, i);
        }
        x.append(9);
        for (int left = 5; left >= 0; left--) {
            DUE.answers("undo()", left, x::undo);
            DUE.answers("digest()", digests[4 + left], x::digest);
        }
        DUE.state("undo() of a state that was discarded", x::undo);
        DUE.answers("digest()", digests[4], x::digest);
        DUE.answers("clearBuffer()", 1, x::clearBuffer);
    }

    private static void savedStates() {
        HeapFile x = new HeapFile();
        DUE.answers("savedStates()", 0, x::savedStates);
        x.append(1);
        x.insert();
        DUE.answers("savedStates() after insert()", 1, x::savedStates);
        x.update(0);
        DUE.answers("savedStates() after update()", 2, x::savedStates);
        x.compact(0);
        DUE.answers("savedStates() after compact()", 3, x::savedStates);
        x.bringHome();
        DUE.answers("savedStates() after bringHome()", 4, x::savedStates);
        Steps.run(x, "-5");
        DUE.answers("savedStates() after run()", 5, x::savedStates);
        DUE.bounds("delete(5)", () -> x.delete(5));
        DUE.bounds("compact(5)", () -> x.compact(5));
        DUE.argument("run()", x::run);
        DUE.answers("savedStates() after calls that throw", 5, x::savedStates);
        x.delete(0);
        DUE.answers("savedStates() after delete()", 6, x::savedStates);
        x.compact(0);
        DUE.answers("savedStates() at most", 6, x::savedStates);
        x.undo();
        DUE.answers("savedStates() after undo()", 5, x::savedStates);
    }

    private static void digest() {
        HeapFile x = new HeapFile();
        DUE.answers("digest() of a new file", 4436L * 31 * 31 * 31 * 31 * 31 * 31 * 31, x::digest);
        x.append(255);
        DUE.answers("digest() with a buffer", 4436L * 31 * 31 * 31 * 31 * 31 * 31 * 31, x::digest);
        DUE.answers("digest() of a moved row", digestOf(Steps.withMoved()), () -> Steps.withMoved().digest());
        HeapFile y = withTwoMoved();
        Steps.update(y, 2, 1, 1);
        y.delete(1);
        y.compact(0);
        y.compact(0);
        DUE.answers("digest() after moves, a return and compactions", digestOf(y), y::digest);
        DUE.answers("digest() of a full file", digestOf(Steps.fullFile()), () -> Steps.fullFile().digest());
    }

    /** The document's hash, of what the other calls answer. */
    private static long digestOf(HeapFile x) {
        long hash = 4436;
        for (int v : new int[] {x.pages(), x.rows(), x.notes(), x.moves(), x.returns(), x.compactions()}) {
            hash = 31 * hash + v;
        }
        for (int page = 0; page < x.pages(); page++) {
            hash = 31 * (31 * hash + x.free(page)) + x.gap(page);
            for (int offset = 0; offset < 128; offset++) {
                hash = 31 * hash + x.pageByte(page, offset);
            }
        }
        return 31 * hash + Float.floatToIntBits((float) x.fillFactor());
    }
}

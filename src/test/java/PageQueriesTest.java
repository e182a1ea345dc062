/** Promises 17 to 26: pages, pageByte, free, gap, kind, notes, moves, returns, compactions, fillFactor. */
public final class PageQueriesTest {
    private static final Due DUE = new Due("promises 17 to 26");

    public static void main(String[] args) {
        pages();
        pageBytes();
        freeAndGap();
        kinds();
        counters();
        fillFactor();
        DUE.end();
    }

    private static void pages() {
        HeapFile x = new HeapFile();
        for (int n = 1; n <= 8; n++) {
            Steps.insert(x, 60, 1);
            int want = n;
            DUE.answers("pages()", want, x::pages);
            Steps.insert(x, 60, 1);
            DUE.answers("pages()", want, x::pages);
        }
        DUE.state("insert() in a full file", () -> Steps.insert(x, 0, 0));
        DUE.answers("pages()", 8, x::pages);
        x.delete(700);
        x.delete(701);
        DUE.answers("pages() with an empty one", 8, x::pages);
    }

    private static void pageBytes() {
        HeapFile x = new HeapFile();
        DUE.bounds("pageByte(0, 0) without pages", () -> x.pageByte(0, 0));
        Steps.insert(x, 3, 255);
        DUE.answers("page 0", "1 124 124 4 0", () -> Steps.bytes(x, 0, 0, 5));
        DUE.answers("its end", "0 1 255 255 255", () -> Steps.bytes(x, 0, 123, 128));
        DUE.bounds("pageByte(0, 128)", () -> x.pageByte(0, 128));
        DUE.bounds("pageByte(1, 0)", () -> x.pageByte(1, 0));
        for (int far : Steps.FAR) {
            DUE.bounds("pageByte(0, " + far + ")", () -> x.pageByte(0, far));
            DUE.bounds("pageByte(" + far + ", 0)", () -> x.pageByte(far, 0));
            DUE.bounds("pageByte(" + far + ", " + far + ")", () -> x.pageByte(far, far));
        }
        x.undo();
        DUE.bounds("pageByte(0, 0) after undo()", () -> x.pageByte(0, 0));
    }

    private static void freeAndGap() {
        HeapFile x = new HeapFile();
        for (int far : Steps.FAR) {
            DUE.bounds("free(" + far + ")", () -> x.free(far));
            DUE.bounds("gap(" + far + ")", () -> x.gap(far));
        }
        DUE.bounds("free(0) without pages", () -> x.free(0));
        DUE.bounds("gap(0) without pages", () -> x.gap(0));
        for (int i = 0; i < 3; i++) {
            Steps.insert(x, 9, i);
        }
        DUE.answers("free(0)", 90, () -> x.free(0));
        DUE.answers("gap(0)", 90, () -> x.gap(0));
        DUE.bounds("free(1)", () -> x.free(1));
        DUE.bounds("gap(1)", () -> x.gap(1));
        x.delete(1);
        // The hole and the empty slot: the slot stays, so just the record's 10 bytes become free.
        DUE.answers("free(0)", 100, () -> x.free(0));
        DUE.answers("gap(0)", 90, () -> x.gap(0));
        x.delete(2);
        DUE.answers("free(0)", 114, () -> x.free(0));
        DUE.answers("gap(0)", 114, () -> x.gap(0));
        x.delete(0);
        DUE.answers("free(0)", 126, () -> x.free(0));
        DUE.answers("gap(0)", 126, () -> x.gap(0));
    }

    private static void kinds() {
        HeapFile x = Steps.fullPage();
        Steps.update(x, 0, 51, 1);
        Steps.insert(x, 0, 0);
        Steps.insert(x, 1, 2);
        x.delete(2);
        int[][] due = {{0, 2}, {1, 1}, {2, 0}, {3, 1}, {4, 1}, {5, 0}, {30, 0}, {31, 0}, {99, 0}, {100, 3}, {101, 0}, {200, 0}};
        for (int[] pair : due) {
            DUE.answers("kind(" + pair[0] + ")", pair[1], () -> x.kind(pair[0]));
        }
        for (int far : Steps.FAR) {
            DUE.answers("kind(" + far + ")", 0, () -> x.kind(far));
        }
        DUE.answers("kind(0) without pages", 0, () -> new HeapFile().kind(0));
    }

    private static void counters() {
        HeapFile x = Steps.fullPage();
        DUE.answers("update(0)", 3, () -> Steps.update(x, 0, 51, 1));
        counters(x, 1, 1, 0, 1);
        // The note is shorter than row 0 was, so row 2 has room at home, without a compaction.
        DUE.answers("update(2)", 1, () -> Steps.update(x, 2, 9, 1));
        counters(x, 1, 1, 0, 1);
        DUE.answers("insert() that compacts", 3, () -> Steps.insert(x, 42, 1));
        counters(x, 1, 1, 0, 2);
        DUE.answers("update(2) that compacts for its note", 3, () -> Steps.update(x, 2, 20, 1));
        counters(x, 2, 2, 0, 3);
        DUE.answers("compact(1) that moves nothing", 0, () -> x.compact(1));
        counters(x, 2, 2, 0, 4);
        x.delete(3);
        DUE.answers("bringHome() with room for row 0 alone", 1, x::bringHome);
        counters(x, 1, 2, 1, 5);
        DUE.answers("update(2) that returns", 1, () -> Steps.update(x, 2, 6, 1));
        counters(x, 0, 2, 2, 6);
        x.undo();
        counters(x, 1, 2, 1, 5);
        x.undo();
        x.undo();
        counters(x, 2, 2, 0, 4);
        x.undo();
        counters(x, 2, 2, 0, 3);
        x.undo();
        counters(x, 1, 1, 0, 2);
    }

    private static void counters(HeapFile x, int notes, int moves, int returns, int compactions) {
        DUE.answers("notes()", notes, x::notes);
        DUE.answers("moves()", moves, x::moves);
        DUE.answers("returns()", returns, x::returns);
        DUE.answers("compactions()", compactions, x::compactions);
    }

    private static void fillFactor() {
        HeapFile x = new HeapFile();
        DUE.answers("fillFactor() without pages", 0.0, x::fillFactor);
        Steps.insert(x, 0, 0);
        DUE.answers("fillFactor()", 3.0 / 128.0, x::fillFactor);
        Steps.insert(x, 60, 0);
        DUE.answers("fillFactor()", 64.0 / 128.0, x::fillFactor);
        Steps.insert(x, 60, 0);
        DUE.answers("fillFactor() of 2 pages", 125.0 / 256.0, x::fillFactor);
        Steps.insert(x, 60, 0);
        Steps.insert(x, 60, 0);
        DUE.answers("fillFactor() of 3 pages", 247.0 / 384.0, x::fillFactor);
        // Notes and moved rows count with their own sizes: 3, and 3 more than the bytes.
        HeapFile y = Steps.fullPage();
        Steps.update(y, 0, 51, 1);
        DUE.answers("fillFactor() with a moved row", (3 + 61 + 8 + 54) / 256.0, y::fillFactor);
        for (int row : new int[] {0, 1, 2}) {
            y.delete(row);
        }
        DUE.answers("fillFactor() of empty pages", 0.0, y::fillFactor);
    }
}

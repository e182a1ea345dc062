/** Promises 33 to 35: undo, savedStates, digest. */
public final class UndoTest {
    private static final Due DUE = new Due("promises 33 to 35");

    public static void main(String[] args) {
        nothingSaved();
        sixStates();
        whatIsSaved();
        whatIsNotSaved();
        bufferStays();
        digestOfANewObject();
        digestFollowsItsList();
        digestBits();
        DUE.end();
    }

    private static void nothingSaved() {
        HeapFile x = new HeapFile();
        DUE.state("undo()", x::undo);
        x.insert();
        DUE.answers("undo()", 0, x::undo);
        DUE.state("undo() again", x::undo);
        DUE.answers("pages()", 0, x::pages);
        DUE.answers("insert() after undo()", 0, x::insert);
        DUE.answers("page 0", "1 125 125 3 0", () -> Steps.bytes(x, 0, 0, 5));
    }

    private static void sixStates() {
        HeapFile x = new HeapFile();
        long[] digests = new long[10];
        for (int i = 0; i < 9; i++) {
            digests[i] = x.digest();
            Steps.insert(x, i, i);
            int want = Math.min(6, i + 1);
            DUE.answers("savedStates()", want, x::savedStates);
        }
        for (int i = 8; i >= 3; i--) {
            int left = i - 3;
            DUE.answers("undo()", left, x::undo);
            DUE.answers("savedStates()", left, x::savedStates);
            DUE.answers("digest()", digests[i], x::digest);
        }
        DUE.state("undo() of a discarded state", x::undo);
        DUE.answers("rows()", 3, x::rows);
        // The saved states are in order again after more than 6 were saved and some were restored.
        for (int i = 0; i < 4; i++) {
            digests[i] = x.digest();
            Steps.insert(x, 20 + i, i);
        }
        x.undo();
        digests[3] = x.digest();
        for (int i = 3; i < 8; i++) {
            digests[i] = x.digest();
            Steps.insert(x, 10 + i, i);
        }
        for (int i = 7; i >= 2; i--) {
            int left = i - 2;
            DUE.answers("undo()", left, x::undo);
            DUE.answers("digest()", digests[i], x::digest);
        }
    }

    /** Every undoable call saves a state, even if it changes nothing. */
    private static void whatIsSaved() {
        HeapFile x = Steps.fullPage();
        x.undo();
        x.undo();
        x.undo();
        x.insert();
        DUE.answers("savedStates() after insert()", 1, x::savedStates);
        x.update(0);
        DUE.answers("savedStates() after update(0)", 2, x::savedStates);
        x.bringHome();
        DUE.answers("savedStates() after bringHome()", 3, x::savedStates);
        x.compact(0);
        DUE.answers("savedStates() after compact(0)", 4, x::savedStates);
        Steps.run(x, "-1");
        DUE.answers("savedStates() after run()", 5, x::savedStates);
        x.delete(0);
        DUE.answers("savedStates() after delete(0)", 6, x::savedStates);
        DUE.answers("undo() of delete(0)", 5, x::undo);
        DUE.answers("isRow(0)", true, () -> x.isRow(0));
        DUE.answers("undo() of run()", 4, x::undo);
        DUE.answers("compactions()", 1, x::compactions);
        DUE.answers("undo() of compact(0)", 3, x::undo);
        DUE.answers("compactions()", 0, x::compactions);
    }

    private static void whatIsNotSaved() {
        HeapFile x = Steps.fullFile();
        long before = x.digest();
        Steps.buffer(x, 3, 3);
        DUE.state("insert()", x::insert);
        DUE.state("update(2)", () -> x.update(2));
        DUE.bounds("update(5)", () -> x.update(5));
        DUE.bounds("delete(5)", () -> x.delete(5));
        DUE.bounds("compact(8)", () -> x.compact(8));
        DUE.argument("run()", x::run);
        DUE.answers("digest()", before, x::digest);
        DUE.answers("undo() of the last insert()", 5, x::undo);
        DUE.answers("rows()", 16, x::rows);
        HeapFile y = new HeapFile();
        DUE.bounds("delete(0)", () -> y.delete(0));
        DUE.argument("run()", y::run);
        DUE.answers("savedStates()", 0, y::savedStates);
    }

    private static void bufferStays() {
        HeapFile x = new HeapFile();
        Steps.insert(x, 5, 5);
        x.fill(4, 4);
        x.undo();
        DUE.answers("the buffer after undo()", 4, x::clearBuffer);
        DUE.state("undo()", x::undo);
    }

    private static void digestOfANewObject() {
        long hash = 4436L;
        for (int i = 0; i < 7; i++) {
            hash = 31L * hash;
        }
        DUE.answers("digest() of a new object", hash, () -> new HeapFile().digest());
    }

    private static long digestByHand(HeapFile x) {
        long hash = 4436L;
        int[] counts = {x.pages(), x.rows(), x.notes(), x.moves(), x.returns(), x.compactions()};
        for (int count : counts) {
            hash = 31L * hash + count;
        }
        for (int page = 0; page < x.pages(); page++) {
            hash = 31L * hash + x.free(page);
            hash = 31L * hash + x.gap(page);
            for (int offset = 0; offset < 128; offset++) {
                hash = 31L * hash + x.pageByte(page, offset);
            }
        }
        return 31L * hash + Float.floatToIntBits((float) x.fillFactor());
    }

    private static void digestFollowsItsList() {
        HeapFile x = Steps.fullPage();
        DUE.answers("digest()", digestByHand(x), x::digest);
        Steps.update(x, 0, 51, 1);
        DUE.answers("digest() after a move", digestByHand(x), x::digest);
        x.delete(1);
        DUE.answers("digest() with an empty slot", digestByHand(x), x::digest);
        Steps.update(x, 0, 20, 1);
        DUE.answers("digest() after a return", digestByHand(x), x::digest);
        x.compact(0);
        DUE.answers("digest() after a compaction", digestByHand(x), x::digest);
        x.fill(9, 9);
        DUE.answers("digest() has no part of the buffer", digestByHand(x), x::digest);
    }

    /** Fill factors of 1 to 8 pages, from 0.0 on. */
    private static void digestBits() {
        HeapFile x = new HeapFile();
        for (int page = 0; page < 8; page++) {
            for (int i = 0; i < 2; i++) {
                Steps.insert(x, 60, i);
                DUE.answers("digest()", digestByHand(x), x::digest);
            }
        }
        for (int row = 0; row < 702; row++) {
            if (x.isRow(row)) {
                x.delete(row);
                DUE.answers("digest()", digestByHand(x), x::digest);
                if (row % 100 == 1) {
                    Steps.insert(x, row / 100, row / 100);
                    DUE.answers("digest()", digestByHand(x), x::digest);
                    x.undo();
                }
            }
        }
        DUE.answers("fillFactor()", 0.0, x::fillFactor);
        for (int i = 0; i < 200; i++) {
            Steps.insert(x, i % 3, i);
            DUE.answers("digest()", digestByHand(x), x::digest);
        }
    }
}

import java.math.BigInteger;

/** The sentences of "Undo" that name a boundary, and promises 33 to 35 about them. */
public final class UndoBoundaryTest {
    private static final Due DUE = new Due("boundaries of undo and digest");

    public static void main(String[] args) {
        nothingSaved();
        restoresEachCall();
        upToSix();
        theOldestIsDiscarded();
        savedEvenIfNothingChanges();
        savedByTheseAlone();
        notSavedByARefusedCall();
        everythingButTheBuffer();
        backToNoPage();
        undoIsNotUndone();
        digestOfANewFile();
        digestOverflows();
        digestOfEachValue();
        bitsOfTheFillFactor();
        aLifeOf512Calls();
        DUE.end();
    }

    private static void nothingSaved() {
        DUE.sentence("Throws IllegalStateException if no state is saved");
        HeapFile x = new HeapFile();
        DUE.answers("savedStates()", 0, x::savedStates);
        DUE.state("undo()", x::undo);
        x.insert();
        DUE.answers("undo() of one", 0, x::undo);
        DUE.state("undo() of none", x::undo);
        DUE.answers("savedStates()", 0, x::savedStates);
    }

    private static void restoresEachCall() {
        DUE.sentence("Restores the state that was saved last");
        // update() by each of its ways: 1 of a row at home, 1 of a moved row, 2, and 3.
        Twins.Request[] calls = {HeapFile::insert, y -> y.update(0), y -> Steps.update(y, 2, 2, 1), y -> y.update(2),
            y -> y.update(1), y -> y.delete(1), y -> y.delete(2), HeapFile::bringHome, y -> y.compact(0), y -> y.compact(1),
            y -> Steps.run(y, "-0;=2:abc;+xyz;-101;^;=100:a")};
        int[] due = {103, 1, 1, 2, 3, 55, 3, 1, 3, 3, 6};
        for (int i = 0; i < calls.length; i++) {
            HeapFile x = Steps.withMoved();
            Steps.update(x, 100, 5, 7);
            Steps.update(x, 0, 56, 7);
            Steps.buffer(x, 60, 9);
            long before = x.digest();
            String whole = pagesOf(x);
            DUE.answers("call " + i, due[i], answerOf(calls[i], x));
            DUE.answers("digest() stays with call " + i, false, () -> x.digest() == before);
            x.undo();
            DUE.answers("digest() after undo() of call " + i, before, x::digest);
            DUE.answers("the pages after undo() of call " + i, whole, () -> pagesOf(x));
        }
    }

    private static String pagesOf(HeapFile x) {
        StringBuilder text = new StringBuilder();
        for (int page = 0; page < x.pages(); page++) {
            text.append(Steps.bytes(x, page, 0, 128)).append('\n');
        }
        return text.toString();
    }

    private static void upToSix() {
        DUE.sentence("Restores the state that was saved last, and removes it from the saved states. Returns the number of saved "
            + "states that are left.");
        for (int count = 1; count <= 6; count++) {
            HeapFile x = new HeapFile();
            long[] digests = new long[count];
            for (int i = 0; i < count; i++) {
                digests[i] = x.digest();
                Steps.insert(x, i, i);
            }
            DUE.answers("savedStates()", count, x::savedStates);
            for (int i = count - 1; i >= 0; i--) {
                int left = i;
                DUE.answers("undo()", left, x::undo);
                DUE.answers("savedStates()", left, x::savedStates);
                DUE.answers("digest()", digests[i], x::digest);
            }
            DUE.state("undo() after all", x::undo);
            DUE.answers("pages()", 0, x::pages);
        }
    }

    private static void theOldestIsDiscarded() {
        DUE.sentence("At most 6 states are saved; when one more is saved, the oldest one is discarded.");
        for (int count = 7; count <= 20; count++) {
            HeapFile x = new HeapFile();
            long[] digests = new long[count];
            for (int i = 0; i < count; i++) {
                digests[i] = x.digest();
                Steps.insert(x, i, i);
            }
            DUE.answers("savedStates()", 6, x::savedStates);
            for (int i = count - 1; i >= count - 6; i--) {
                int left = i - (count - 6);
                DUE.answers("undo()", left, x::undo);
                DUE.answers("digest()", digests[i], x::digest);
            }
            DUE.state("undo() of a discarded state", x::undo);
            DUE.answers("rows()", count - 6, x::rows);
        }
        // Undone to a state between, six more states push out what was left.
        HeapFile y = Steps.withRows(1, 2, 3, 4, 5, 6, 7);
        y.undo();
        y.undo();
        DUE.answers("savedStates()", 4, y::savedStates);
        long middle = y.digest();
        for (int i = 0; i < 6; i++) {
            DUE.answers("savedStates()", Math.min(6, 4 + i), y::savedStates);
            Steps.insert(y, 20 + i, 1);
        }
        for (int i = 5; i >= 0; i--) {
            int left = i;
            DUE.answers("undo()", left, y::undo);
        }
        DUE.answers("digest()", middle, y::digest);
        DUE.state("undo()", y::undo);
    }

    private static void savedEvenIfNothingChanges() {
        DUE.sentence("Each method that is marked \"Undoable\" saves the state from before the call if it does not throw an "
            + "exception, even if nothing changes.");
        HeapFile x = Steps.withRows(60, 5);
        long before = x.digest();
        Steps.update(x, 1, 5, 11);
        DUE.answers("digest() after update() with the same bytes", before, x::digest);
        DUE.answers("savedStates()", 3, x::savedStates);
        x.bringHome();
        DUE.answers("digest() after bringHome() without notes", before, x::digest);
        DUE.answers("savedStates()", 4, x::savedStates);
        Steps.run(x, "-799");
        DUE.answers("digest() after run() of no order", before, x::digest);
        DUE.answers("savedStates()", 5, x::savedStates);
        x.compact(0);
        DUE.answers("savedStates() after compact(0) that moves nothing", 6, x::savedStates);
        for (int left = 5; left >= 2; left--) {
            int want = left;
            DUE.answers("undo()", want, x::undo);
            DUE.answers("digest()", before, x::digest);
        }
        DUE.answers("undo() of insert()", 1, x::undo);
        DUE.answers("rows()", 1, x::rows);
        HeapFile y = new HeapFile();
        for (int i = 1; i <= 7; i++) {
            y.bringHome();
            DUE.answers("savedStates() without pages", Math.min(i, 6), y::savedStates);
        }
    }

    private static void savedByTheseAlone() {
        DUE.sentence("Each method that is marked \"Undoable\" saves the state");
        Twins.Request[] others = {y -> y.append(1), y -> y.fill(2, 1), HeapFile::clearBuffer, HeapFile::rows, y -> y.isRow(2),
            y -> y.length(2), y -> y.byteOf(2, 1), y -> y.placeOf(2), y -> y.next(1), y -> y.rowAt(100), HeapFile::pages,
            y -> y.pageByte(0, 1), y -> y.free(0), y -> y.gap(0), y -> y.kind(2), HeapFile::notes, HeapFile::moves,
            HeapFile::returns, HeapFile::compactions, HeapFile::fillFactor, y -> y.ifInserted(60), y -> y.ifUpdated(2, 60),
            y -> y.greatestAtHome(2), y -> y.capacity(0), HeapFile::firstError, HeapFile::savedStates, HeapFile::digest};
        for (int i = 0; i < others.length; i++) {
            HeapFile x = fourStates();
            long before = x.digest();
            DUE.same("call " + i + " throws", Due.outcome(answerOf(others[i], x)).startsWith("throws"), false);
            DUE.answers("savedStates() after call " + i, 4, x::savedStates);
            DUE.answers("digest() after call " + i, before, x::digest);
            DUE.answers("undo() after call " + i, 3, x::undo);
            DUE.answers("moves() after undo()", 0, x::moves);
        }
    }

    private static Due.Call answerOf(Twins.Request request, HeapFile x) {
        return () -> request.of(x);
    }

    /** Row 2 is moved to 100, and 4 states are saved. */
    private static HeapFile fourStates() {
        HeapFile x = Steps.withRows(60, 55, 2);
        Steps.update(x, 2, 3, 33);
        return x;
    }

    private static void notSavedByARefusedCall() {
        DUE.sentence("saves the state from before the call if it does not throw an exception");
        HeapFile x = Steps.fullFile();
        x.delete(701);
        DUE.answers("undo()", 5, x::undo);
        Steps.buffer(x, 3, 1);
        DUE.state("insert()", x::insert);
        DUE.state("update(2)", () -> x.update(2));
        DUE.bounds("update(3)", () -> x.update(3));
        DUE.bounds("delete(3)", () -> x.delete(3));
        DUE.bounds("compact(8)", () -> x.compact(8));
        DUE.argument("run()", x::run);
        DUE.answers("savedStates()", 5, x::savedStates);
        HeapFile y = new HeapFile();
        DUE.bounds("update(0)", () -> y.update(0));
        DUE.bounds("delete(0)", () -> y.delete(0));
        DUE.bounds("compact(0)", () -> y.compact(0));
        DUE.argument("run()", y::run);
        DUE.answers("savedStates()", 0, y::savedStates);
        DUE.state("undo()", y::undo);
    }

    private static void everythingButTheBuffer() {
        DUE.sentence("The state consists of everything except the buffer and the saved states.");
        HeapFile x = Steps.withMoved();
        Steps.update(x, 2, 2, 1);
        Steps.update(x, 2, 3, 1);
        x.compact(1);
        int[] due = {x.moves(), x.returns(), x.compactions(), x.notes()};
        Steps.buffer(x, 2, 1);
        DUE.answers("update(2) that returns", 1, () -> x.update(2));
        DUE.answers("undo()", 5, x::undo);
        DUE.answers("clearBuffer(): the row's bytes do not come back", 0, x::clearBuffer);
        DUE.answers("moves()", due[0], x::moves);
        DUE.answers("returns()", due[1], x::returns);
        DUE.answers("compactions()", due[2], x::compactions);
        DUE.answers("notes()", due[3], x::notes);
        DUE.answers("undo() of compact(1)", 4, x::undo);
        DUE.answers("compactions()", due[2] - 1, x::compactions);
        DUE.answers("undo() of a move", 3, x::undo);
        DUE.answers("moves()", due[0] - 1, x::moves);
        DUE.answers("returns()", due[1], x::returns);
        DUE.answers("notes()", due[3] - 1, x::notes);
        Steps.countingBuffer(x, 60, 1);
        DUE.answers("undo() of a return", 2, x::undo);
        DUE.answers("returns()", due[1] - 1, x::returns);
        DUE.answers("append() after undo() with a full buffer", "throws.IllegalStateException", () -> x.append(1));
        DUE.answers("update(0)", 1, () -> x.update(0));
        DUE.answers("the row", Steps.counting(60, 1), () -> Steps.rowOf(x, 0));
    }

    private static void backToNoPage() {
        DUE.sentence("The state consists of everything except the buffer and the saved states.");
        HeapFile x = new HeapFile();
        long empty = x.digest();
        Steps.insert(x, 60, 255);
        DUE.answers("undo()", 0, x::undo);
        DUE.answers("pages()", 0, x::pages);
        DUE.answers("digest()", empty, x::digest);
        DUE.bounds("pageByte(0, 127)", () -> x.pageByte(0, 127));
        DUE.answers("kind(0)", 0, () -> x.kind(0));
        DUE.answers("capacity(0)", 200, () -> x.capacity(0));
        Steps.insert(x, 0, 0);
        DUE.answers("the page anew", "1 125 125 3" + " 0".repeat(121) + " 4 0 0", () -> Steps.bytes(x, 0, 0, 128));
        // A new page for a moved row goes as well.
        HeapFile y = Steps.withRows(60, 55, 2);
        Steps.update(y, 2, 60, 255);
        DUE.answers("pages()", 2, y::pages);
        y.undo();
        DUE.answers("pages()", 1, y::pages);
        DUE.answers("kind(100)", 0, () -> y.kind(100));
        DUE.bounds("free(1)", () -> y.free(1));
        DUE.answers("insert()", 100, () -> Steps.insert(y, 3, 1));
        DUE.answers("the page anew", "1 124 124 4" + " 0".repeat(120) + " 1 1 1 1", () -> Steps.bytes(y, 1, 0, 128));
    }

    private static void undoIsNotUndone() {
        DUE.sentence("Restores the state that was saved last, and removes it from the saved states.");
        HeapFile x = Steps.withRows(1, 2, 3);
        DUE.answers("undo()", 2, x::undo);
        DUE.answers("undo()", 1, x::undo);
        DUE.answers("rows()", 1, x::rows);
        DUE.answers("insert()", 1, () -> Steps.insert(x, 9, 9));
        DUE.answers("undo()", 1, x::undo);
        DUE.answers("rows()", 1, x::rows);
        DUE.answers("undo()", 0, x::undo);
        DUE.answers("rows()", 0, x::rows);
    }

    /** The hash in numbers without an end, cut to 64 bits only then. */
    private static long hashOf(long... values) {
        BigInteger hash = BigInteger.valueOf(4436);
        for (long value : values) {
            hash = hash.multiply(BigInteger.valueOf(31)).add(BigInteger.valueOf(value));
        }
        return hash.longValue();
    }

    private static long[] valuesOf(HeapFile x) {
        long[] values = new long[7 + 130 * x.pages()];
        int n = 0;
        for (int count : new int[] {x.pages(), x.rows(), x.notes(), x.moves(), x.returns(), x.compactions()}) {
            values[n++] = count;
        }
        for (int page = 0; page < x.pages(); page++) {
            values[n++] = x.free(page);
            values[n++] = x.gap(page);
            for (int offset = 0; offset < 128; offset++) {
                values[n++] = x.pageByte(page, offset);
            }
        }
        values[n] = Float.floatToIntBits((float) x.fillFactor());
        return values;
    }

    private static void digestOfANewFile() {
        DUE.sentence("The hash starts at 4436.");
        HeapFile x = new HeapFile();
        // 4436 times 31 to the power of 7, for all seven values are 0; this is still within a long.
        DUE.answers("digest() of a new file", 4436L * 27512614111L, x::digest);
        x.fill(60, 255);
        DUE.answers("digest() with a full buffer", 4436L * 27512614111L, x::digest);
        x.bringHome();
        DUE.answers("digest() with a saved state", 4436L * 27512614111L, x::digest);
    }

    private static void digestOverflows() {
        DUE.sentence("the hash becomes 31 * hash + v, in long arithmetic with overflow");
        boolean negative = false;
        boolean positive = false;
        HeapFile x = new HeapFile();
        for (int i = 0; i < 16; i++) {
            Steps.countingBuffer(x, 60, 10 * i);
            x.insert();
            long due = hashOf(valuesOf(x));
            DUE.answers("digest() of " + x.pages() + " pages", due, x::digest);
            negative |= due < 0;
            positive |= due > 0;
        }
        DUE.same("both signs were met", negative && positive, true);
        // The smallest file that overflows: a page with nothing in it.
        HeapFile y = Steps.withRows(0);
        y.delete(0);
        long[] values = new long[137];
        values[0] = 1;
        values[6] = 126;
        values[7] = 126;
        values[9] = 128;
        DUE.answers("digest() of an empty page", hashOf(values), y::digest);
    }

    private static void digestOfEachValue() {
        DUE.sentence("The values are: what pages(), rows(), notes(), moves(), returns() and compactions() return; for each page "
            + "its free bytes, its gap, and its 128 bytes");
        HeapFile x = Steps.withMoved();
        Steps.update(x, 100, 60, 1);
        Steps.update(x, 2, 46, 1);
        for (int page : new int[] {0, 1, 1, 2}) {
            x.compact(page);
        }
        Steps.update(x, 2, 1, 1);
        Steps.update(x, 2, 3, 1);
        x.delete(1);
        DUE.same("the numbers are different", x.pages() + " " + x.rows() + " " + x.notes() + " " + x.moves() + " "
            + x.returns() + " " + x.compactions(), "3 4 1 3 1 4");
        DUE.answers("digest()", hashOf(valuesOf(x)), x::digest);
    }

    private static void bitsOfTheFillFactor() {
        DUE.sentence("the bits of fillFactor(), converted to float (as Float.floatToIntBits)");
        HeapFile x = new HeapFile();
        DUE.answers("digest() of fill factor 0.0 without pages", hashOf(valuesOf(x)), x::digest);
        // All sums that one page can have, each with 1 to 8 pages: halves, and fractions that a float must round.
        for (int page = 0; page < 8; page++) {
            int first = 100 * page;
            for (int length = 0; length <= 60; length += 1 + page % 2) {
                Steps.insert(x, length, 1);
                DUE.answers("digest() with " + x.fillFactor(), hashOf(valuesOf(x)), x::digest);
                Steps.insert(x, 60, 1);
                DUE.answers("digest() with " + x.fillFactor(), hashOf(valuesOf(x)), x::digest);
                x.delete(first);
                x.delete(first + 1);
            }
            DUE.answers("digest() with " + x.fillFactor(), hashOf(valuesOf(x)), x::digest);
            Steps.insert(x, 60, 1);
            Steps.insert(x, 60, 1);
        }
    }

    private static void aLifeOf512Calls() {
        DUE.sentence("An object is used for at most 512 calls after it has been made");
        HeapFile x = new HeapFile();
        for (int i = 0; i < 128; i++) {
            int length = 1 + i % 60;
            DUE.answers("fill()", length, () -> x.fill(length, 1));
            DUE.answers("insert()", 0, x::insert);
            DUE.answers("compact(0)", 0, () -> x.compact(0));
            int want = i + 1;
            if (i < 127) {
                DUE.answers("delete(0)", length, () -> x.delete(0));
            } else {
                DUE.answers("compactions(), the call 512", want, x::compactions);
            }
        }
        HeapFile y = new HeapFile();
        for (int i = 0; i < 255; i++) {
            DUE.answers("bringHome()", 0, y::bringHome);
            DUE.answers("savedStates()", Math.min(i + 1, 6), y::savedStates);
        }
        DUE.answers("undo()", 5, y::undo);
        DUE.answers("undo(), the call 512", 4, y::undo);
    }
}

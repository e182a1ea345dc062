import java.util.List;
import java.util.Random;
import java.util.TreeSet;

/**
 * Promises 1 to 35: runs of calls, drawn with fixed seeds, each answer compared with Model's. A run looks at an
 * object far more often than 512 times; no answer of HeapFile depends on how many calls there were.
 */
public final class ModelTest {
    private static final int RUNS = 120;
    private static final int CHANGES = 256;

    /** What the runs have to meet; else they would prove less than they seem to. */
    private static final List<String> WANTED = List.of(
        "a saved state is discarded", "an empty slot is used again", "compacted to insert",
        "compacted to insert, gap below 0", "compacted to leave a note", "compacted to replace a moved row",
        "compacted to store a moved row", "compacted to store a moved row, gap below 0", "compacted to store at home",
        "update at home", "update returns", "update stays moved", "a row at home moves", "a moved row moves",
        "a row at home cannot be changed", "a moved row cannot be changed", "a moved row is deleted",
        "a row has no room to be brought home", "bringHome brings none", "bringHome brings one",
        "bringHome brings several", "all orders are executed", "no order is executed, IndexOutOfBoundsException",
        "no order is executed, IllegalStateException", "an order stops, IndexOutOfBoundsException",
        "an order stops, IllegalStateException");

    private final Random random;
    private final int run;
    private final HeapFile x = new HeapFile();
    private final Model m = new Model();

    private ModelTest(int run) {
        this.run = run;
        this.random = new Random(run);
    }

    public static void main(String[] args) {
        for (int run = 1; run <= RUNS; run++) {
            new ModelTest(run).play();
        }
        TreeSet<String> missed = new TreeSet<>(WANTED);
        missed.removeAll(Model.SEEN);
        if (!missed.isEmpty()) {
            System.out.println("the runs never met: " + missed);
            System.exit(1);
        }
        System.out.println("promises 1 to 35 (model): " + RUNS + " runs are as due");
    }

    private void both(String call, Due.Call mine, Due.Call models) {
        String want = Due.outcome(models);
        String got = Due.outcome(mine);
        if (!got.equals(want)) {
            System.out.println("run " + run + ": " + call + " answered " + got + ", due is " + want);
            System.exit(1);
        }
    }

    private void play() {
        for (int i = 0; i < CHANGES; i++) {
            change();
            if (i % 32 == 0) {
                lookAtEverything();
            } else {
                query();
            }
            both("digest()", x::digest, m::digest);
            both("savedStates()", x::savedStates, m::savedStates);
        }
        lookAtEverything();
    }

    /** A length that often fills a page, or else any length. */
    private int size() {
        switch (run % 4) {
            case 0:
                return random.nextInt(6);
            case 1:
                return random.nextInt(61);
            case 2:
                return random.nextInt(3) == 0 ? 50 + random.nextInt(11) : random.nextInt(12);
            default:
                return 20 + random.nextInt(random.nextBoolean() ? 4 : 41);
        }
    }

    private int someRow() {
        if (m.rows() == 0 || random.nextInt(20) == 0) {
            return random.nextInt(830) - 15;
        }
        for (int i = 0; i < 2000; i++) {
            int row = 100 * random.nextInt(m.pages()) + random.nextInt(26);
            // Moved rows are rarer than others, but more happens to them.
            if (m.isRow(row) && (m.kind(row) == 2 || random.nextInt(3) == 0)) {
                return row;
            }
        }
        return 0;
    }

    private int somePlace() {
        return random.nextInt(12) == 0 ? random.nextInt() : 100 * random.nextInt(9) + random.nextInt(28) - 1;
    }

    private int somePage() {
        return random.nextInt(11) - 1;
    }

    private void newBuffer() {
        both("clearBuffer()", x::clearBuffer, m::clearBuffer);
        int count = size();
        int value = random.nextInt(256);
        both("fill(" + count + ", " + value + ")", () -> x.fill(count, value), () -> m.fill(count, value));
        int last = random.nextInt(256);
        if (random.nextInt(3) == 0) {
            both("append(" + last + ")", () -> x.append(last), () -> m.append(last));
        }
    }

    private void change() {
        int row = someRow();
        int page = somePage();
        int chance = random.nextInt(100);
        if (chance < 30) {
            newBuffer();
            both("insert()", x::insert, m::insert);
        } else if (chance < 65) {
            newBuffer();
            both("update(" + row + ")", () -> x.update(row), () -> m.update(row));
        } else if (chance < 75) {
            both("delete(" + row + ")", () -> x.delete(row), () -> m.delete(row));
        } else if (chance < 78) {
            both("bringHome()", x::bringHome, m::bringHome);
        } else if (chance < 80) {
            both("compact(" + page + ")", () -> x.compact(page), () -> m.compact(page));
        } else if (chance < 84) {
            both("undo()", x::undo, m::undo);
        } else if (chance < 86) {
            wrongFilling();
        } else {
            orders();
        }
    }

    private void wrongFilling() {
        int count = random.nextInt(64) - 1;
        int value = random.nextInt(260) - 2;
        both("fill(" + count + ", " + value + ")", () -> x.fill(count, value), () -> m.fill(count, value));
        both("append(" + value + ")", () -> x.append(value), () -> m.append(value));
    }

    private String letters() {
        int n = 1 + random.nextInt(random.nextInt(5) == 0 ? 42 : random.nextInt(4) == 0 ? 20 : 5);
        return String.valueOf((char) ('a' + random.nextInt(26))).repeat(n);
    }

    private String order() {
        switch (random.nextInt(7)) {
            case 0:
            case 1:
                return "+" + letters();
            case 2:
            case 3:
            case 4:
                return "=" + someRow() + ":" + letters();
            case 5:
                return "-" + someRow();
            default:
                return "^";
        }
    }

    private void orders() {
        StringBuilder text = new StringBuilder(order());
        for (int i = random.nextInt(6); i > 0; i--) {
            text.append(';').append(order());
        }
        if (random.nextInt(4) == 0) {
            text.setCharAt(random.nextInt(text.length()), "+=-^;:0789az`{/ \u00fa".charAt(random.nextInt(17)));
        }
        if (random.nextInt(8) == 0) {
            text.setLength(random.nextInt(text.length() + 1));
        }
        both("clearBuffer()", x::clearBuffer, m::clearBuffer);
        for (int i = 0; i < text.length() && i < 60; i++) {
            int value = text.charAt(i);
            both("append(" + value + ")", () -> x.append(value), () -> m.append(value));
        }
        both("firstError() of " + text, x::firstError, m::firstError);
        both("run() of " + text, x::run, m::run);
        if (random.nextInt(3) == 0) {
            both("clearBuffer()", x::clearBuffer, m::clearBuffer);
        }
    }

    private void query() {
        int row = someRow();
        int place = somePlace();
        int page = somePage();
        int index = random.nextInt(64) - 2;
        int offset = random.nextInt(132) - 2;
        rowQueries(row, index);
        placeQueries(place);
        pageQueries(page, offset);
        both("ifInserted(" + index + ")", () -> x.ifInserted(index), () -> m.ifInserted(index));
        both("capacity(" + index + ")", () -> x.capacity(index), () -> m.capacity(index));
    }

    private void rowQueries(int row, int index) {
        both("isRow(" + row + ")", () -> x.isRow(row), () -> m.isRow(row));
        both("length(" + row + ")", () -> x.length(row), () -> m.length(row));
        both("byteOf(" + row + ", " + index + ")", () -> x.byteOf(row, index), () -> m.byteOf(row, index));
        both("placeOf(" + row + ")", () -> x.placeOf(row), () -> m.placeOf(row));
        both("ifUpdated(" + row + ", " + index + ")", () -> x.ifUpdated(row, index), () -> m.ifUpdated(row, index));
        both("greatestAtHome(" + row + ")", () -> x.greatestAtHome(row), () -> m.greatestAtHome(row));
    }

    private void placeQueries(int place) {
        both("next(" + place + ")", () -> x.next(place), () -> m.next(place));
        both("rowAt(" + place + ")", () -> x.rowAt(place), () -> m.rowAt(place));
        both("kind(" + place + ")", () -> x.kind(place), () -> m.kind(place));
    }

    private void pageQueries(int page, int offset) {
        both("pageByte(" + page + ", " + offset + ")", () -> x.pageByte(page, offset), () -> m.pageByte(page, offset));
        both("free(" + page + ")", () -> x.free(page), () -> m.free(page));
        both("gap(" + page + ")", () -> x.gap(page), () -> m.gap(page));
    }

    private void lookAtEverything() {
        both("rows()", x::rows, m::rows);
        both("pages()", x::pages, m::pages);
        both("notes()", x::notes, m::notes);
        both("moves()", x::moves, m::moves);
        both("returns()", x::returns, m::returns);
        both("compactions()", x::compactions, m::compactions);
        both("fillFactor()", x::fillFactor, m::fillFactor);
        both("firstError()", x::firstError, m::firstError);
        for (int place = -2; place < 830; place++) {
            if (place % 100 < 33) {
                rowQueries(place, random.nextInt(61));
                placeQueries(place);
            }
        }
        for (int page = -1; page < 9; page++) {
            for (int offset = -1; offset < 129; offset++) {
                pageQueries(page, offset);
            }
        }
        for (int length = -1; length < 62; length++) {
            int n = length;
            both("ifInserted(" + n + ")", () -> x.ifInserted(n), () -> m.ifInserted(n));
            both("capacity(" + n + ")", () -> x.capacity(n), () -> m.capacity(n));
        }
    }
}

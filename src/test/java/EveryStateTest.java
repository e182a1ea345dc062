import java.util.ArrayList;
import java.util.List;
import java.util.Random;
import java.util.TreeMap;

/**
 * What the document says of every state, looked at after each call of runs that are drawn with fixed seeds: the pages
 * are read byte by byte, so neither a second program nor the queries are trusted. And each forecast is compared with
 * what the call then does, and each undo with the state before the call.
 */
public final class EveryStateTest {
    private static final Due DUE = new Due("every state");
    private static final int RUNS = 120;
    private static final int CHANGES = 150;

    /** What the runs met, and how often; without all of this they would show less than they seem to. */
    private static final TreeMap<String, Integer> MET = new TreeMap<>();
    private static final String[] WANTED = {"insert: done", "insert: none", "update: 1", "update: 2", "update: 3", "update: -1",
        "update: a return", "update: a moved row moves", "update: none", "delete: done", "delete: none", "bringHome: 0",
        "bringHome: 1", "bringHome: 2", "compact: done", "compact: none", "undo: done", "undo: none", "capacity: 0"};

    private final Random random;
    private final int most;
    private final HeapFile x = new HeapFile();
    /** The digests of the saved states, the oldest one first. */
    private final List<Long> saved = new ArrayList<>();

    private EveryStateTest(int run) {
        random = new Random(1000 + run);
        most = new int[] {4, 12, 30, 60}[run % 4];
    }

    public static void main(String[] args) {
        for (int run = 0; run < RUNS; run++) {
            new EveryStateTest(run).play();
        }
        for (String wanted : WANTED) {
            DUE.same("the runs met " + wanted, MET.containsKey(wanted), true);
        }
        DUE.end();
    }

    private static void met(String what) {
        MET.merge(what, 1, Integer::sum);
    }

    private void play() {
        for (int i = 0; i < CHANGES; i++) {
            change();
            pages();
            rows();
            DUE.sentence("savedStates(): 0 to 6");
            DUE.same("savedStates()", x.savedStates(), saved.size());
        }
        capacity(random.nextInt(61));
    }

    // ---- calls, with what was forecast

    private void change() {
        x.clearBuffer();
        int n = random.nextInt(4) == 0 ? random.nextInt(61) : random.nextInt(most + 1);
        for (int i = 0; i < n; i++) {
            x.append(random.nextInt(256));
        }
        int chance = random.nextInt(20);
        if (chance < 7) {
            insert(n);
        } else if (chance < 14) {
            update(someRow(), n);
        } else if (chance < 16) {
            delete(someRow());
        } else if (chance < 17) {
            bringHome();
        } else if (chance < 18) {
            compact(random.nextInt(9));
        } else {
            undo();
        }
    }

    /** A row, if there is one; each page is as likely as the others. */
    private int someRow() {
        int row = 100 * random.nextInt(8) + random.nextInt(26);
        for (int i = 0; i < 800 && !x.isRow(row); i++) {
            row = (row + 1) % 800;
        }
        return row;
    }

    private void save(long before) {
        saved.add(before);
        if (saved.size() > 6) {
            saved.remove(0);
        }
    }

    private void insert(int n) {
        DUE.sentence("ifInserted: Predicts where insert() would insert a row.");
        long before = x.digest();
        int forecast = x.ifInserted(n);
        String due = forecast == HeapFile.NONE ? "throws.IllegalStateException" : String.valueOf(forecast);
        met(forecast == HeapFile.NONE ? "insert: none" : "insert: done");
        DUE.same("insert() of " + n + " bytes", Due.outcome(x::insert), due);
        if (forecast != HeapFile.NONE) {
            save(before);
        }
        done(before, forecast != HeapFile.NONE, n);
    }

    private void update(int row, int n) {
        if (!x.isRow(row)) {
            DUE.bounds("ifUpdated(" + row + ", " + n + ")", () -> x.ifUpdated(row, n));
            DUE.bounds("update(" + row + ")", () -> x.update(row));
            met("update: none");
            return;
        }
        DUE.sentence("ifUpdated: Predicts what update() would do.");
        long before = x.digest();
        int forecast = x.ifUpdated(row, n);
        int greatest = x.greatestAtHome(row);
        int[] counts = {x.moves(), x.returns()};
        boolean moved = x.placeOf(row) != row;
        met("update: " + forecast);
        if (moved && forecast != 2 && forecast != HeapFile.NONE) {
            met(forecast == 1 ? "update: a return" : "update: a moved row moves");
        }
        String due = forecast == HeapFile.NONE ? "throws.IllegalStateException" : String.valueOf(forecast);
        DUE.same("update(" + row + ") with " + n + " bytes", Due.outcome(() -> x.update(row)), due);
        DUE.same("moves()", x.moves() - counts[0], forecast == 3 ? 1 : 0);
        DUE.same("returns()", x.returns() - counts[1], forecast == 1 && moved ? 1 : 0);
        DUE.sentence("greatestAtHome: Returns the greatest length for which update() would return 1.");
        DUE.same("update() at home with " + n + " bytes, " + greatest + " at most", forecast == 1, n <= greatest);
        if (forecast != HeapFile.NONE) {
            save(before);
            DUE.same("length(" + row + ")", x.length(row), n);
        }
        done(before, forecast != HeapFile.NONE, n);
    }

    /** A call empties the buffer if it was done, and else changes nothing. */
    private void done(long before, boolean isDone, int n) {
        DUE.sentence("A call that throws an exception changes nothing.");
        DUE.same("clearBuffer()", x.clearBuffer(), isDone ? 0 : n);
        if (!isDone) {
            DUE.same("digest()", x.digest(), before);
        }
    }

    private void delete(int row) {
        DUE.sentence("delete: Returns the length of the row.");
        met(x.isRow(row) ? "delete: done" : "delete: none");
        if (!x.isRow(row)) {
            DUE.bounds("delete(" + row + ")", () -> x.delete(row));
            return;
        }
        save(x.digest());
        int rows = x.rows();
        int length = x.length(row);
        DUE.answers("delete(" + row + ")", length, () -> x.delete(row));
        DUE.same("rows()", x.rows(), rows - 1);
    }

    private void bringHome() {
        DUE.sentence("bringHome: Returns the number of rows that return.");
        save(x.digest());
        int notes = x.notes();
        int returns = x.returns();
        int back = x.bringHome();
        met("bringHome: " + Math.min(2, back));
        DUE.same("notes()", x.notes(), notes - back);
        DUE.same("returns()", x.returns(), returns + back);
    }

    private void compact(int page) {
        DUE.sentence("compact: Returns the number of records that change their offset.");
        met(page < x.pages() ? "compact: done" : "compact: none");
        if (page >= x.pages()) {
            DUE.bounds("compact(" + page + ")", () -> x.compact(page));
            return;
        }
        save(x.digest());
        String before = Steps.slots(x, page);
        int free = x.free(page);
        int changed = x.compact(page);
        DUE.same("changes their offset", changed > 0, !before.equals(Steps.slots(x, page)));
        DUE.same("gap(" + page + ") of a compacted page", x.gap(page), free);
    }

    private void undo() {
        DUE.sentence("undo: Restores the state that was saved last, and removes it from the saved states.");
        met(saved.isEmpty() ? "undo: none" : "undo: done");
        if (saved.isEmpty()) {
            DUE.state("undo()", x::undo);
            return;
        }
        long due = saved.remove(saved.size() - 1);
        DUE.answers("undo()", saved.size(), x::undo);
        DUE.answers("digest()", due, x::digest);
    }

    private void capacity(int length) {
        DUE.sentence("capacity: Returns how many rows could be inserted, one after the other, with the same length");
        int forecast = x.capacity(length);
        int rows = x.rows();
        met("capacity: " + Math.min(1, forecast));
        for (int i = 0; i < 201 && x.ifInserted(length) != HeapFile.NONE; i++) {
            Steps.insert(x, length, 7);
        }
        DUE.same("capacity(" + length + ")", forecast, x.rows() - rows);
    }

    // ---- what holds in every state

    private void pages() {
        DUE.sentence("There are at most 8 pages, which are numbered from 0.");
        DUE.same("at most 8 pages", x.pages() <= 8, true);
        int sum = 0;
        for (int page = 0; page < x.pages(); page++) {
            sum += page(page);
        }
        DUE.sentence("the sum of the sizes of all records, as a double, divided by 128 times the number of pages");
        DUE.same("fillFactor()", x.fillFactor(), x.pages() == 0 ? 0.0 : (double) sum / (128.0 * x.pages()));
    }

    /** Looks at a page, and answers the sum of the sizes of its records. */
    private int page(int page) {
        int slots = x.pageByte(page, 0);
        boolean[] used = new boolean[128];
        int lowest = 128;
        int sum = 0;
        DUE.sentence("Records do not overlap, and they lie behind the slots.");
        for (int slot = 0; slot < slots; slot++) {
            int offset = x.pageByte(page, 2 + 2 * slot);
            int size = x.pageByte(page, 3 + 2 * slot);
            DUE.same("both bytes of a slot are 0, or none", offset == 0, size == 0);
            for (int i = offset; i < offset + size; i++) {
                DUE.same("offset " + i + " is free for slot " + slot, i >= 2 + 2 * slots && i < 128 && !used[i], true);
                used[i] = true;
            }
            sum += size;
            lowest = size > 0 ? Math.min(lowest, offset) : lowest;
        }
        DUE.sentence("Byte 1 is the lowest offset of a record, or 128 if the page has no record.");
        DUE.same("byte 1 of page " + page, x.pageByte(page, 1), lowest);
        DUE.sentence("The last slot of a page is never empty");
        DUE.same("the last slot is empty", slots > 0 && x.pageByte(page, 1 + 2 * slots) == 0, false);
        DUE.sentence("All other bytes are 0.");
        for (int i = 2 + 2 * slots; i < 128; i++) {
            DUE.same("byte " + i + " of page " + page, used[i] || x.pageByte(page, i) == 0, true);
        }
        DUE.sentence("The free bytes of a page are 128 - 2 - 2 * (number of slots) - (sum of the sizes of its records).");
        DUE.same("free(" + page + ")", x.free(page), 128 - 2 - 2 * slots - sum);
        DUE.sentence("The gap of a page is byte 1 - 2 - 2 * (number of slots).");
        DUE.same("gap(" + page + ")", x.gap(page), lowest - 2 - 2 * slots);
        return sum;
    }

    private void rows() {
        int notes = 0;
        int rows = 0;
        int last = -1;
        for (int place = 0; place < 800; place++) {
            int kind = x.kind(place);
            if (kind == 1) {
                atHome(place);
            } else if (kind == 2) {
                note(place);
                notes++;
            } else if (kind == 3) {
                moved(place);
            }
            rows += x.isRow(place) ? 1 : 0;
            if (kind == 1 || kind == 3) {
                DUE.sentence("next: Returns the lowest place greater than this number with a row at home or a moved row");
                DUE.same("next(" + last + ")", x.next(last), place);
                last = place;
            }
        }
        DUE.same("next(" + last + ")", x.next(last), HeapFile.NONE);
        DUE.sentence("rows: Returns the number of rows. notes: Returns the number of notes.");
        DUE.same("rows()", x.rows(), rows);
        DUE.same("notes()", x.notes(), notes);
    }

    private int[] record(int place) {
        String[] texts = Steps.recordAt(x, place).split(" ");
        int[] bytes = new int[texts.length];
        for (int i = 0; i < bytes.length; i++) {
            bytes[i] = Integer.parseInt(texts[i]);
        }
        return bytes;
    }

    private void sameRow(int row, int[] record, int head, int length) {
        DUE.same("length(" + row + ")", x.length(row), length);
        for (int i = 0; i < length; i++) {
            DUE.same("byteOf(" + row + ", " + i + ")", x.byteOf(row, i), record[head + i]);
        }
    }

    private void atHome(int place) {
        DUE.sentence("kind 1, a row at home: a first byte, the bytes of the row, and then 0 as often as is necessary");
        int[] record = record(place);
        int length = record[0] == 4 ? 0 : record[0] == 5 ? 1 : record.length - 1;
        DUE.same("first byte at " + place, record[0], length == 0 ? 4 : length == 1 ? 5 : 1);
        DUE.same("size at " + place, record.length, Math.max(3, length + 1));
        for (int i = 1 + length; i < record.length; i++) {
            DUE.same("byte " + i + " at " + place, record[i], 0);
        }
        DUE.same("length at most 60", length <= 60, true);
        DUE.same("placeOf(" + place + ")", x.placeOf(place), place);
        DUE.same("rowAt(" + place + ")", x.rowAt(place), place);
        sameRow(place, record, 1, length);
    }

    private void note(int place) {
        DUE.sentence("kind 2, a note: the byte 2, and the page and the slot where the row is. Its size is 3.");
        int[] record = record(place);
        DUE.same("size at " + place, record.length, 3);
        DUE.same("first byte at " + place, record[0], 2);
        int there = 100 * record[1] + record[2];
        DUE.same("kind(" + there + ") where the note at " + place + " leads", x.kind(there), 3);
        DUE.same("another page", record[1] == place / 100, false);
        DUE.same("placeOf(" + place + ")", x.placeOf(place), there);
        DUE.same("rowAt(" + there + ")", x.rowAt(there), place);
        DUE.same("rowAt(" + place + ")", x.rowAt(place), HeapFile.NONE);
    }

    private void moved(int place) {
        DUE.sentence("kind 3, a moved row: the byte 3, the page and the slot of its home, and the bytes of the row.");
        int[] record = record(place);
        DUE.same("first byte at " + place, record[0], 3);
        int home = 100 * record[1] + record[2];
        DUE.same("kind(" + home + ") at the home of " + place, x.kind(home), 2);
        DUE.same("placeOf(" + home + ")", x.placeOf(home), place);
        DUE.same("isRow(" + place + ")", x.isRow(place), false);
        DUE.same("length at most 60", record.length <= 63, true);
        sameRow(home, record, 3, record.length - 3);
    }
}

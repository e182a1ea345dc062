import java.util.ArrayList;
import java.util.Arrays;
import java.util.List;
import java.util.TreeSet;
import java.util.regex.Matcher;
import java.util.regex.Pattern;

/**
 * The document a second time, written another way: a page is a list of records that know their offsets, and its
 * 128 bytes are made only when they are asked for. ModelTest compares HeapFile with it.
 */
final class Model {
    static final int NONE = -1;

    private static final String DATA = "[a-z]{1,40}";
    private static final String IDENTIFIER = "(?:0|[1-9][0-9]?|[1-7][0-9][0-9])";
    private static final String ORDER = "(?:\\+" + DATA + "|=" + IDENTIFIER + ":" + DATA + "|-" + IDENTIFIER + "|\\^)";
    private static final Pattern TEXT = Pattern.compile(ORDER + "(?:;" + ORDER + ")*");

    /** What happened in the runs, so that ModelTest can tell whether they went everywhere. */
    static final TreeSet<String> SEEN = new TreeSet<>();

    private static final class Rec {
        int kind;
        int offset;
        int size;
        int[] row = {};
        int otherPage;
        int otherSlot;

        Rec copy() {
            Rec r = new Rec();
            r.kind = kind;
            r.offset = offset;
            r.size = size;
            r.row = row;
            r.otherPage = otherPage;
            r.otherSlot = otherSlot;
            return r;
        }

        int[] bytes() {
            int[] all = new int[size];
            if (kind == 1) {
                all[0] = row.length == 0 ? 4 : row.length == 1 ? 5 : 1;
                System.arraycopy(row, 0, all, 1, row.length);
            } else {
                all[0] = kind;
                all[1] = otherPage;
                all[2] = otherSlot;
                System.arraycopy(row, 0, all, 3, row.length);
            }
            return all;
        }
    }

    private static final class Page {
        final List<Rec> slots = new ArrayList<>();

        int lowest() {
            int min = 128;
            for (Rec r : slots) {
                if (r != null && r.offset < min) {
                    min = r.offset;
                }
            }
            return min;
        }

        int sizes() {
            int sum = 0;
            for (Rec r : slots) {
                sum += r == null ? 0 : r.size;
            }
            return sum;
        }

        int free() {
            return 126 - 2 * slots.size() - sizes();
        }

        int gap() {
            return lowest() - 2 - 2 * slots.size();
        }

        boolean room(int size) {
            return slots.contains(null) ? size <= free() : slots.size() < 31 && size + 2 <= free();
        }

        int[] bytes() {
            int[] all = new int[128];
            all[0] = slots.size();
            all[1] = lowest();
            for (int s = 0; s < slots.size(); s++) {
                Rec r = slots.get(s);
                if (r != null) {
                    all[2 + 2 * s] = r.offset;
                    all[3 + 2 * s] = r.size;
                    System.arraycopy(r.bytes(), 0, all, r.offset, r.size);
                }
            }
            return all;
        }

        void remove(int slot) {
            slots.set(slot, null);
            while (!slots.isEmpty() && slots.get(slots.size() - 1) == null) {
                slots.remove(slots.size() - 1);
            }
        }
    }

    private static final class Memory {
        List<Page> pages = new ArrayList<>();
        int moves;
        int returns;
        int compactions;

        Memory copy() {
            Memory m = new Memory();
            for (Page p : pages) {
                Page q = new Page();
                for (Rec r : p.slots) {
                    q.slots.add(r == null ? null : r.copy());
                }
                m.pages.add(q);
            }
            m.moves = moves;
            m.returns = returns;
            m.compactions = compactions;
            return m;
        }
    }

    private Memory now = new Memory();
    private final List<Memory> saved = new ArrayList<>();
    private StringBuilder buffer = new StringBuilder();

    private void save(Memory before) {
        saved.add(before);
        if (saved.size() > 6) {
            saved.remove(0);
            SEEN.add("a saved state is discarded");
        }
    }

    // ---- buffer

    int append(int value) {
        if (value < 0 || value > 255) {
            throw new IllegalArgumentException();
        }
        if (buffer.length() == 60) {
            throw new IllegalStateException();
        }
        buffer.append((char) value);
        return buffer.length();
    }

    int fill(int count, int value) {
        if (count < 1 || count > 60 || value < 0 || value > 255) {
            throw new IllegalArgumentException();
        }
        if (buffer.length() + count > 60) {
            throw new IllegalStateException();
        }
        buffer.append(String.valueOf((char) value).repeat(count));
        return buffer.length();
    }

    int clearBuffer() {
        int n = buffer.length();
        buffer.setLength(0);
        return n;
    }

    private static int[] rowOf(CharSequence text) {
        return text.chars().toArray();
    }

    // ---- storing records

    private static Rec home(int[] row) {
        Rec r = new Rec();
        r.kind = 1;
        r.row = row;
        r.size = row.length < 2 ? 3 : row.length + 1;
        return r;
    }

    private static Rec other(int kind, int place, int[] row) {
        Rec r = new Rec();
        r.kind = kind;
        r.otherPage = place / 100;
        r.otherSlot = place % 100;
        r.row = row;
        r.size = row.length + 3;
        return r;
    }

    private int compactRecords(Page p) {
        int changed = 0;
        int end = 128;
        for (Rec r : p.slots) {
            if (r != null) {
                end -= r.size;
                if (r.offset != end) {
                    changed++;
                }
                r.offset = end;
            }
        }
        now.compactions++;
        return changed;
    }

    private void put(Page p, int slot, Rec r, String when) {
        if (p.gap() < r.size) {
            SEEN.add("compacted to " + when + (p.gap() < 0 ? ", gap below 0" : ""));
            compactRecords(p);
        }
        r.offset = p.lowest() - r.size;
        p.slots.set(slot, r);
    }

    private int store(int page, Rec r, String when) {
        if (page == now.pages.size()) {
            now.pages.add(new Page());
        }
        Page p = now.pages.get(page);
        int slot = p.slots.indexOf(null);
        if (slot < 0) {
            slot = p.slots.size();
            p.slots.add(null);
        } else {
            SEEN.add("an empty slot is used again");
        }
        put(p, slot, r, when);
        return 100 * page + slot;
    }

    private void replace(int place, Rec r, String when) {
        Page p = now.pages.get(place / 100);
        p.slots.set(place % 100, null);
        put(p, place % 100, r, when);
    }

    private int find(int size, Integer... except) {
        for (int p = 0; p < now.pages.size(); p++) {
            if (!Arrays.asList(except).contains(p) && now.pages.get(p).room(size)) {
                return p;
            }
        }
        return now.pages.size() < 8 ? now.pages.size() : NONE;
    }

    private Rec rec(int place) {
        if (place < 0 || place / 100 >= now.pages.size()) {
            return null;
        }
        Page p = now.pages.get(place / 100);
        return place % 100 < p.slots.size() ? p.slots.get(place % 100) : null;
    }

    private int stored(int row) {
        Rec r = rec(row);
        return r.kind == 2 ? 100 * r.otherPage + r.otherSlot : row;
    }

    private void need(boolean there) {
        if (!there) {
            throw new IndexOutOfBoundsException();
        }
    }

    // ---- rows

    private int insertRow(int[] row) {
        int page = find(home(row).size);
        if (page == NONE) {
            throw new IllegalStateException();
        }
        return store(page, home(row), "insert");
    }

    private boolean fits(int place, int size) {
        return size <= now.pages.get(place / 100).free() + rec(place).size;
    }

    int ifUpdated(int row, int length) {
        need(isRow(row));
        if (length < 0 || length > 60) {
            throw new IllegalArgumentException();
        }
        return way(row, new int[length]);
    }

    private int way(int row, int[] bytes) {
        int at = stored(row);
        if (fits(row, home(bytes).size)) {
            return 1;
        }
        if (at != row && fits(at, bytes.length + 3)) {
            return 2;
        }
        return find(bytes.length + 3, row / 100, at / 100) == NONE ? NONE : 3;
    }

    private int updateRow(int row, int[] bytes) {
        need(isRow(row));
        int at = stored(row);
        boolean moved = at != row;
        switch (way(row, bytes)) {
            case 1:
                goHome(row, bytes);
                SEEN.add(moved ? "update returns" : "update at home");
                return 1;
            case 2:
                replace(at, other(3, row, bytes), "replace a moved row");
                SEEN.add("update stays moved");
                return 2;
            case 3:
                int page = find(bytes.length + 3, row / 100, at / 100);
                int to = store(page, other(3, row, bytes), "store a moved row");
                if (moved) {
                    now.pages.get(at / 100).remove(at % 100);
                    rec(row).otherPage = to / 100;
                    rec(row).otherSlot = to % 100;
                    SEEN.add("a moved row moves");
                } else {
                    replace(row, other(2, to, new int[0]), "leave a note");
                    SEEN.add("a row at home moves");
                }
                now.moves++;
                return 3;
            default:
                SEEN.add(moved ? "a moved row cannot be changed" : "a row at home cannot be changed");
                throw new IllegalStateException();
        }
    }

    private void goHome(int row, int[] bytes) {
        int at = stored(row);
        if (at != row) {
            now.pages.get(at / 100).remove(at % 100);
            now.returns++;
        }
        replace(row, home(bytes), "store at home");
    }

    private int deleteRow(int row) {
        need(isRow(row));
        int n = length(row);
        int at = stored(row);
        now.pages.get(at / 100).remove(at % 100);
        if (at != row) {
            now.pages.get(row / 100).remove(row % 100);
            SEEN.add("a moved row is deleted");
        }
        return n;
    }

    private int bringAll() {
        int count = 0;
        for (int place = 0; place < 800; place++) {
            if (kind(place) == 2) {
                int[] bytes = rec(stored(place)).row;
                if (fits(place, home(bytes).size)) {
                    goHome(place, bytes);
                    count++;
                } else {
                    SEEN.add("a row has no room to be brought home");
                }
            }
        }
        SEEN.add(count > 1 ? "bringHome brings several" : count > 0 ? "bringHome brings one" : "bringHome brings none");
        return count;
    }

    int insert() {
        Memory before = now.copy();
        int row = insertRow(rowOf(buffer));
        save(before);
        buffer.setLength(0);
        return row;
    }

    int update(int row) {
        Memory before = now.copy();
        int way = updateRow(row, rowOf(buffer));
        save(before);
        buffer.setLength(0);
        return way;
    }

    int delete(int row) {
        Memory before = now.copy();
        int n = deleteRow(row);
        save(before);
        return n;
    }

    int bringHome() {
        save(now.copy());
        return bringAll();
    }

    int compact(int page) {
        need(page >= 0 && page < now.pages.size());
        save(now.copy());
        return compactRecords(now.pages.get(page));
    }

    // ---- queries

    private int count(int kind) {
        int n = 0;
        for (int place = 0; place < 800; place++) {
            n += kind(place) == kind ? 1 : 0;
        }
        return n;
    }

    int rows() {
        return count(1) + count(3);
    }

    boolean isRow(int row) {
        return rec(row) != null && rec(row).kind != 3;
    }

    int length(int row) {
        need(isRow(row));
        return rec(stored(row)).row.length;
    }

    int byteOf(int row, int index) {
        need(index >= 0 && index < length(row));
        return rec(stored(row)).row[index];
    }

    int placeOf(int row) {
        need(isRow(row));
        return stored(row);
    }

    int next(int place) {
        for (int p = 0; p < 800; p++) {
            if (p > place && (kind(p) == 1 || kind(p) == 3)) {
                return p;
            }
        }
        return NONE;
    }

    int rowAt(int place) {
        for (int row = 0; row < 800; row++) {
            if (isRow(row) && stored(row) == place) {
                return row;
            }
        }
        return NONE;
    }

    int pages() {
        return now.pages.size();
    }

    int pageByte(int page, int offset) {
        need(page >= 0 && page < now.pages.size() && offset >= 0 && offset < 128);
        return now.pages.get(page).bytes()[offset];
    }

    int free(int page) {
        need(page >= 0 && page < now.pages.size());
        return now.pages.get(page).free();
    }

    int gap(int page) {
        need(page >= 0 && page < now.pages.size());
        return now.pages.get(page).gap();
    }

    int kind(int place) {
        return rec(place) == null ? 0 : rec(place).kind;
    }

    int notes() {
        return count(2);
    }

    int moves() {
        return now.moves;
    }

    int returns() {
        return now.returns;
    }

    int compactions() {
        return now.compactions;
    }

    double fillFactor() {
        double sum = 0;
        for (Page p : now.pages) {
            sum += p.sizes();
        }
        return now.pages.isEmpty() ? 0.0 : sum / (128.0 * now.pages.size());
    }

    // ---- forecasts: done on the thing itself, and taken back

    int ifInserted(int length) {
        if (length < 0 || length > 60) {
            throw new IllegalArgumentException();
        }
        Memory before = now.copy();
        try {
            return insertRow(new int[length]);
        } catch (IllegalStateException e) {
            return NONE;
        } finally {
            now = before;
        }
    }

    int greatestAtHome(int row) {
        need(isRow(row));
        for (int length = 60; length > 0; length--) {
            if (way(row, new int[length]) == 1) {
                return length;
            }
        }
        return 0;
    }

    int capacity(int length) {
        if (length < 0 || length > 60) {
            throw new IllegalArgumentException();
        }
        Memory before = now.copy();
        int n = 0;
        while (find(home(new int[length]).size) != NONE) {
            insertRow(new int[length]);
            n++;
        }
        now = before;
        return n;
    }

    // ---- order text

    int firstError() {
        for (int n = 1; n <= buffer.length(); n++) {
            Matcher m = TEXT.matcher(buffer.substring(0, n));
            if (!m.matches() && !m.hitEnd()) {
                return n - 1;
            }
        }
        return buffer.length();
    }

    int run() {
        if (!TEXT.matcher(buffer).matches()) {
            throw new IllegalArgumentException();
        }
        save(now.copy());
        int done = 0;
        try {
            for (String order : buffer.toString().split(";")) {
                execute(order);
                done++;
            }
            SEEN.add("all orders are executed");
        } catch (IllegalStateException | IndexOutOfBoundsException e) {
            SEEN.add((done == 0 ? "no order is executed, " : "an order stops, ") + e.getClass().getSimpleName());
        }
        buffer.setLength(0);
        return done;
    }

    private void execute(String order) {
        String rest = order.substring(1);
        switch (order.charAt(0)) {
            case '+':
                insertRow(rowOf(rest));
                break;
            case '=':
                String[] parts = rest.split(":");
                updateRow(Integer.parseInt(parts[0]), rowOf(parts[1]));
                break;
            case '-':
                deleteRow(Integer.parseInt(rest));
                break;
            default:
                bringAll();
        }
    }

    // ---- undo

    int undo() {
        if (saved.isEmpty()) {
            throw new IllegalStateException();
        }
        now = saved.remove(saved.size() - 1);
        return saved.size();
    }

    int savedStates() {
        return saved.size();
    }

    long digest() {
        List<Integer> values = new ArrayList<>(List.of(pages(), rows(), notes(), moves(), returns(), compactions()));
        for (Page p : now.pages) {
            values.add(p.free());
            values.add(p.gap());
            for (int b : p.bytes()) {
                values.add(b);
            }
        }
        values.add(Float.floatToIntBits((float) fillFactor()));
        long hash = 4436;
        for (int v : values) {
            hash = 31 * hash + v;
        }
        return hash;
    }
}

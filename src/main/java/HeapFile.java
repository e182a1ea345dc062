/**
 * A heap file with slotted pages: rows of bytes in pages of 128 bytes. A row that outgrows its home page
 * moves to another one and leaves a note that tells where it went.
 *
 * Everything that a call needs is made once, in the constructor, and used again.
 */
public final class HeapFile {
    public static final int NONE = -1;

    private static final int MOST_PAGES = 8;
    private static final int PAGE_SIZE = 128;
    private static final int MOST_SLOTS = 31;
    private static final int MOST_BYTES = 60;
    private static final int GREATEST_BYTE = 255;
    private static final int MOST_SAVED = 6;
    private static final int PLACES_OF_A_PAGE = 100;

    private static final int SLOT_COUNT = 0;
    private static final int LOWEST_RECORD = 1;
    private static final int FIRST_SLOT = 2;
    private static final int SLOT_SIZE = 2;

    private static final int AT_HOME = 1;
    private static final int NOTE = 2;
    private static final int MOVED = 3;
    private static final int AT_HOME_WITHOUT_BYTES = 4;
    private static final int AT_HOME_WITH_ONE_BYTE = 5;

    private static final int LEAST_RECORD = 3;
    private static final int MOVED_HEAD = 3;
    private static final int GREATEST_RECORD = MOST_BYTES + MOVED_HEAD;

    private static final int WAY_HOME = 1;
    private static final int WAY_STAY = 2;
    private static final int WAY_MOVE = 3;

    private static final long HASH_START = 4436L;

    private final Pages space = new Pages();
    private final State state = space.state;
    private final Bytes buffer = new Bytes(MOST_BYTES);
    private final Bytes content = new Bytes(MOST_BYTES);
    private final Bytes record = new Bytes(GREATEST_RECORD);
    private final OrderReader reader = new OrderReader();
    private final State[] saved = new State[MOST_SAVED];
    private int savedCount;

    public HeapFile() {
        for (int i = 0; i < saved.length; i++) {
            saved[i] = new State();
        }
    }

    // ---- buffer

    public int append(int value) throws IllegalArgumentException, IllegalStateException {
        return appendSeveral(1, value);
    }

    public int fill(int count, int value) throws IllegalArgumentException, IllegalStateException {
        return appendSeveral(count, value);
    }

    public int clearBuffer() {
        int before = buffer.count;
        buffer.empty();
        return before;
    }

    private int appendSeveral(int count, int value) {
        if (count < 1 || count > MOST_BYTES) {
            throw new IllegalArgumentException("count is out of range");
        }
        if (value < 0 || value > GREATEST_BYTE) {
            throw new IllegalArgumentException("value is out of range");
        }
        if (buffer.count + count > MOST_BYTES) {
            throw new IllegalStateException("the buffer has no room for this");
        }
        for (int i = 0; i < count; i++) {
            buffer.add(value);
        }
        return buffer.count;
    }

    // ---- rows

    public int insert() throws IllegalStateException {
        int page = space.findPage(homeSize(buffer.count), NONE, NONE);
        if (page == NONE) {
            throw new IllegalStateException("no page is found");
        }
        saveState();
        content.takePart(buffer, 0, buffer.count);
        buffer.empty();
        return insertContent(page);
    }

    public int update(int row) throws IndexOutOfBoundsException, IllegalStateException {
        requireRow(row);
        int way = wayToChange(row, buffer.count);
        if (way == NONE) {
            throw new IllegalStateException("the row cannot be changed");
        }
        saveState();
        content.takePart(buffer, 0, buffer.count);
        buffer.empty();
        changeRow(row, way);
        return way;
    }

    public int delete(int row) throws IndexOutOfBoundsException {
        requireRow(row);
        saveState();
        int before = lengthAt(presentPlace(row));
        deleteRow(row);
        return before;
    }

    public int bringHome() {
        saveState();
        return bringAllHome();
    }

    public int compact(int page) throws IndexOutOfBoundsException {
        requirePage(page);
        saveState();
        return space.compactPage(page);
    }

    // ---- queries about rows

    public int rows() {
        return countKind(AT_HOME) + countKind(NOTE);
    }

    public boolean isRow(int row) {
        int found = kind(row);
        return found == AT_HOME || found == NOTE;
    }

    public int length(int row) throws IndexOutOfBoundsException {
        requireRow(row);
        return lengthAt(presentPlace(row));
    }

    public int byteOf(int row, int index) throws IndexOutOfBoundsException {
        requireRow(row);
        int place = presentPlace(row);
        if (index < 0 || index >= lengthAt(place)) {
            throw new IndexOutOfBoundsException("there is no such byte");
        }
        return rowByteAt(place, index);
    }

    public int placeOf(int row) throws IndexOutOfBoundsException {
        requireRow(row);
        return presentPlace(row);
    }

    public int next(int place) {
        for (int page = 0; page < state.pageCount; page++) {
            int slots = state.slotCount(page);
            for (int slot = 0; slot < slots; slot++) {
                int candidate = placeAt(page, slot);
                if (candidate > place && rowAt(candidate) != NONE) {
                    return candidate;
                }
            }
        }
        return NONE;
    }

    public int rowAt(int place) {
        int found = kind(place);
        if (found == AT_HOME) {
            return place;
        }
        return found == MOVED ? targetAt(place) : NONE;
    }

    // ---- queries about pages

    public int pages() {
        return state.pageCount;
    }

    public int pageByte(int page, int offset) throws IndexOutOfBoundsException {
        requirePage(page);
        if (offset < 0 || offset >= PAGE_SIZE) {
            throw new IndexOutOfBoundsException("there is no such byte");
        }
        return state.byteAt(page, offset);
    }

    public int free(int page) throws IndexOutOfBoundsException {
        requirePage(page);
        return space.freeBytes(page);
    }

    public int gap(int page) throws IndexOutOfBoundsException {
        requirePage(page);
        return space.gapWith(page, state.slotCount(page));
    }

    public int kind(int place) {
        if (place < 0) {
            return 0;
        }
        int page = pageIn(place);
        int slot = slotIn(place);
        if (page >= state.pageCount || slot >= state.slotCount(page) || state.sizeOf(page, slot) == 0) {
            return 0;
        }
        int first = state.recordByte(page, slot, 0);
        return first == NOTE || first == MOVED ? first : AT_HOME;
    }

    public int notes() {
        return countKind(NOTE);
    }

    public int moves() {
        return state.moveCount;
    }

    public int returns() {
        return state.returnCount;
    }

    public int compactions() {
        return state.compactionCount;
    }

    public double fillFactor() {
        if (state.pageCount <= 0) {
            return 0.0;
        }
        int sum = 0;
        for (int page = 0; page < state.pageCount; page++) {
            sum += space.sizeOfRecords(page);
        }
        return (double) sum / (double) (PAGE_SIZE * state.pageCount);
    }

    // ---- forecasts; they change nothing

    public int ifInserted(int length) throws IllegalArgumentException {
        requireLength(length);
        int page = space.findPage(homeSize(length), NONE, NONE);
        return page == NONE ? NONE : placeAt(page, space.slotToUse(page));
    }

    public int ifUpdated(int row, int length) throws IndexOutOfBoundsException, IllegalArgumentException {
        requireRow(row);
        requireLength(length);
        return wayToChange(row, length);
    }

    public int greatestAtHome(int row) throws IndexOutOfBoundsException {
        requireRow(row);
        // A record has at least 3 bytes, so what fits is never one of the padded rows of length 0 or 1.
        return Math.min(MOST_BYTES, roomToReplace(row) - 1);
    }

    public int capacity(int length) throws IllegalArgumentException {
        requireLength(length);
        int size = homeSize(length);
        int sum = 0;
        // A page that was not opened yet has 0 slots and no record: it counts like an opened empty one.
        for (int page = 0; page < MOST_PAGES; page++) {
            sum += space.recordsThatFit(page, size);
        }
        return sum;
    }

    // ---- order text

    public int firstError() {
        reader.restart();
        for (int i = 0; i < buffer.count; i++) {
            if (!reader.accepts(buffer.at(i))) {
                return i;
            }
        }
        return buffer.count;
    }

    public int run() throws IllegalArgumentException {
        if (firstError() < buffer.count || !reader.mayEnd()) {
            throw new IllegalArgumentException("the buffer is not a complete order text");
        }
        saveState();
        int executed = 0;
        int from = 0;
        boolean going = true;
        for (int i = 0; i <= buffer.count && going; i++) {
            if (i == buffer.count || buffer.at(i) == ';') {
                going = executeOrder(from, i);
                executed += going ? 1 : 0;
                from = i + 1;
            }
        }
        buffer.empty();
        return executed;
    }

    // ---- undo

    public int undo() throws IllegalStateException {
        if (savedCount <= 0 || savedCount > saved.length) {
            throw new IllegalStateException("no state is saved");
        }
        savedCount--;
        state.copyFrom(saved[savedCount]);
        return savedCount;
    }

    public int savedStates() {
        return savedCount;
    }

    public long digest() {
        long hash = HASH_START;
        hash = 31L * hash + state.pageCount;
        hash = 31L * hash + rows();
        hash = 31L * hash + notes();
        hash = 31L * hash + state.moveCount;
        hash = 31L * hash + state.returnCount;
        hash = 31L * hash + state.compactionCount;
        for (int page = 0; page < state.pageCount; page++) {
            hash = 31L * hash + space.freeBytes(page);
            hash = 31L * hash + space.gapWith(page, state.slotCount(page));
            for (int offset = 0; offset < PAGE_SIZE; offset++) {
                hash = 31L * hash + state.byteAt(page, offset);
            }
        }
        return 31L * hash + bitsOfFraction((float) fillFactor());
    }

    /** The bits of a float from 0 to below 1, built by hand because the library's function is not to be had. */
    private static int bitsOfFraction(float fraction) {
        if (!(fraction > 0.0f)) {
            return 0;
        }
        int exponent = 127;
        float mantissa = fraction;
        for (int i = 0; i < 126 && mantissa < 1.0f; i++) {
            mantissa = mantissa * 2.0f;
            exponent--;
        }
        return (exponent << 23) + (int) ((mantissa - 1.0f) * 8388608.0f);
    }

    // ---- what calls require

    private void requireRow(int row) {
        if (!isRow(row)) {
            throw new IndexOutOfBoundsException("there is no such row");
        }
    }

    private void requirePage(int page) {
        if (page < 0 || page >= state.pageCount) {
            throw new IndexOutOfBoundsException("there is no such page");
        }
    }

    private static void requireLength(int length) {
        if (length < 0 || length > MOST_BYTES) {
            throw new IllegalArgumentException("length is out of range");
        }
    }

    // ---- places

    private static int placeAt(int page, int slot) {
        return PLACES_OF_A_PAGE * page + slot;
    }

    private static int pageIn(int place) {
        return place / PLACES_OF_A_PAGE;
    }

    private static int slotIn(int place) {
        return place % PLACES_OF_A_PAGE;
    }

    /** The place that a note or a moved row at a place tells. */
    private int targetAt(int place) {
        int page = pageIn(place);
        int slot = slotIn(place);
        return placeAt(state.recordByte(page, slot, 1), state.recordByte(page, slot, 2));
    }

    private int presentPlace(int row) {
        return kind(row) == NOTE ? targetAt(row) : row;
    }

    private int sizeAt(int place) {
        return state.sizeOf(pageIn(place), slotIn(place));
    }

    // ---- records of rows

    private static int homeSize(int length) {
        return Math.max(LEAST_RECORD, length + 1);
    }

    private static int movedSize(int length) {
        return length + MOVED_HEAD;
    }

    private int lengthAt(int place) {
        int size = sizeAt(place);
        switch (state.recordByte(pageIn(place), slotIn(place), 0)) {
            case AT_HOME_WITHOUT_BYTES:
                return 0;
            case AT_HOME_WITH_ONE_BYTE:
                return 1;
            case MOVED:
                return size - MOVED_HEAD;
            default:
                return size - 1;
        }
    }

    private int rowByteAt(int place, int index) {
        int page = pageIn(place);
        int slot = slotIn(place);
        int head = state.recordByte(page, slot, 0) == MOVED ? MOVED_HEAD : 1;
        return state.recordByte(page, slot, head + index);
    }

    private int countKind(int wanted) {
        int count = 0;
        for (int page = 0; page < state.pageCount; page++) {
            int slots = state.slotCount(page);
            for (int slot = 0; slot < slots; slot++) {
                if (kind(placeAt(page, slot)) == wanted) {
                    count++;
                }
            }
        }
        return count;
    }

    private void writeHomeRecord() {
        record.empty();
        if (content.count == 0) {
            record.add(AT_HOME_WITHOUT_BYTES);
        } else if (content.count == 1) {
            record.add(AT_HOME_WITH_ONE_BYTE);
        } else {
            record.add(AT_HOME);
        }
        record.addAll(content);
        for (int i = record.count; i < LEAST_RECORD; i++) {
            record.add(0);
        }
    }

    /** The head that a note and a moved row share: what it is, and the place that it tells. */
    private void writeHead(int first, int place) {
        record.empty();
        record.add(first);
        record.add(pageIn(place));
        record.add(slotIn(place));
    }

    private void writeMovedRecord(int row) {
        writeHead(MOVED, row);
        record.addAll(content);
    }

    // ---- changing rows

    private int insertContent(int page) {
        space.openIfNew(page);
        int row = placeAt(page, space.slotToUse(page));
        writeHomeRecord();
        space.putRecord(row, record);
        return row;
    }

    private int roomToReplace(int place) {
        return space.freeBytes(pageIn(place)) + sizeAt(place);
    }

    /** The number of the first rule by which a row can get bytes of a length. */
    private int wayToChange(int row, int length) {
        if (homeSize(length) <= roomToReplace(row)) {
            return WAY_HOME;
        }
        int place = presentPlace(row);
        int size = movedSize(length);
        if (place != row && size <= roomToReplace(place)) {
            return WAY_STAY;
        }
        return space.findPage(size, pageIn(row), pageIn(place)) == NONE ? NONE : WAY_MOVE;
    }

    private void changeRow(int row, int way) {
        int place = presentPlace(row);
        if (way == WAY_HOME) {
            storeAtHome(row, place);
            return;
        }
        writeMovedRecord(row);
        if (way == WAY_STAY) {
            space.putRecord(place, record);
            return;
        }
        int page = space.findPage(record.count, pageIn(row), pageIn(place));
        space.openIfNew(page);
        int newPlace = placeAt(page, space.slotToUse(page));
        space.putRecord(newPlace, record);
        leaveNote(row, place, newPlace);
        state.moveCount++;
    }

    private void storeAtHome(int row, int place) {
        if (place != row) {
            space.removeRecord(place);
            state.returnCount++;
        }
        writeHomeRecord();
        space.putRecord(row, record);
    }

    private void leaveNote(int row, int oldPlace, int newPlace) {
        if (oldPlace == row) {
            writeHead(NOTE, newPlace);
            space.putRecord(row, record);
            return;
        }
        space.removeRecord(oldPlace);
        // Putting a new note could move it within its page; it has to stay where it is.
        state.setRecordByte(pageIn(row), slotIn(row), 1, pageIn(newPlace));
        state.setRecordByte(pageIn(row), slotIn(row), 2, slotIn(newPlace));
    }

    private void deleteRow(int row) {
        int place = presentPlace(row);
        space.removeRecord(place);
        if (place != row) {
            space.removeRecord(row);
        }
    }

    private int bringAllHome() {
        int returned = 0;
        for (int page = 0; page < state.pageCount; page++) {
            int slots = state.slotCount(page);
            for (int slot = 0; slot < slots; slot++) {
                int row = placeAt(page, slot);
                if (mayReturn(row)) {
                    int place = targetAt(row);
                    takeContentOf(place);
                    storeAtHome(row, place);
                    returned++;
                }
            }
        }
        return returned;
    }

    private boolean mayReturn(int row) {
        return kind(row) == NOTE && homeSize(lengthAt(targetAt(row))) <= roomToReplace(row);
    }

    private void takeContentOf(int place) {
        int bytes = lengthAt(place);
        content.empty();
        for (int i = 0; i < bytes; i++) {
            content.add(rowByteAt(place, i));
        }
    }

    // ---- executing orders

    /** Executes the order in a part of the buffer; false if its method would throw an exception. */
    private boolean executeOrder(int from, int to) {
        int sign = buffer.at(from);
        if (sign == '^') {
            bringAllHome();
            return true;
        }
        if (sign == '+') {
            content.takePart(buffer, from + 1, to);
            int page = space.findPage(homeSize(content.count), NONE, NONE);
            if (page != NONE) {
                insertContent(page);
            }
            return page != NONE;
        }
        int end = endOfNumber(from + 1, to);
        int row = numberIn(from + 1, end);
        if (!isRow(row)) {
            return false;
        }
        if (sign == '-') {
            deleteRow(row);
            return true;
        }
        content.takePart(buffer, end + 1, to);
        int way = wayToChange(row, content.count);
        if (way != NONE) {
            changeRow(row, way);
        }
        return way != NONE;
    }

    private int endOfNumber(int from, int to) {
        for (int i = from; i < to; i++) {
            if (buffer.at(i) == ':') {
                return i;
            }
        }
        return to;
    }

    private int numberIn(int from, int to) {
        int number = 0;
        for (int i = from; i < to; i++) {
            number = 10 * number + buffer.at(i) - '0';
        }
        return number;
    }

    // ---- saving

    private void saveState() {
        if (savedCount >= saved.length) {
            discardOldest();
        }
        if (savedCount >= 0 && savedCount < saved.length && saved[savedCount] != null) {
            saved[savedCount].copyFrom(state);
            savedCount++;
        }
    }

    /** The oldest state's object goes to the end, to be used again. */
    private void discardOldest() {
        for (int i = 1; i < saved.length; i++) {
            State oldest = saved[i - 1];
            saved[i - 1] = saved[i];
            saved[i] = oldest;
        }
        savedCount--;
    }

    private static int slotOffset(int slot) {
        return FIRST_SLOT + SLOT_SIZE * slot;
    }

    /**
     * All that undo() restores: the bytes of the pages, and what was counted.
     * Each reader looks at its index itself, which keeps the calls flat.
     */
    private static final class State {
        private final int[] bytes = new int[MOST_PAGES * PAGE_SIZE];
        private int pageCount;
        private int moveCount;
        private int returnCount;
        private int compactionCount;

        private int byteAt(int page, int offset) {
            int index = PAGE_SIZE * page + offset;
            return index >= 0 && index < bytes.length ? bytes[index] : 0;
        }

        private int slotCount(int page) {
            int index = PAGE_SIZE * page + SLOT_COUNT;
            return index >= 0 && index < bytes.length ? bytes[index] : 0;
        }

        private int offsetOf(int page, int slot) {
            int index = PAGE_SIZE * page + FIRST_SLOT + SLOT_SIZE * slot;
            return index >= 0 && index < bytes.length ? bytes[index] : 0;
        }

        private int sizeOf(int page, int slot) {
            int index = PAGE_SIZE * page + FIRST_SLOT + SLOT_SIZE * slot + 1;
            return index >= 0 && index < bytes.length ? bytes[index] : 0;
        }

        private int recordByte(int page, int slot, int index) {
            return byteAt(page, offsetOf(page, slot) + index);
        }

        private void setByte(int page, int offset, int value) {
            int index = PAGE_SIZE * page + offset;
            if (index >= 0 && index < bytes.length) {
                bytes[index] = value;
            }
        }

        private void setRecordByte(int page, int slot, int index, int value) {
            setByte(page, offsetOf(page, slot) + index, value);
        }

        private void copyFrom(State other) {
            if (other == null) {
                return;
            }
            System.arraycopy(other.bytes, 0, bytes, 0, Math.min(other.bytes.length, bytes.length));
            pageCount = other.pageCount;
            moveCount = other.moveCount;
            returnCount = other.returnCount;
            compactionCount = other.compactionCount;
        }
    }

    /** How records are stored in pages and removed; it knows nothing of rows. */
    private static final class Pages {
        private final State state = new State();
        private final Bytes before = new Bytes(PAGE_SIZE);

        private int freeBytes(int page) {
            int slots = state.slotCount(page);
            int bytes = PAGE_SIZE - slotOffset(slots);
            for (int slot = 0; slot < slots; slot++) {
                bytes -= state.sizeOf(page, slot);
            }
            return bytes;
        }

        private int sizeOfRecords(int page) {
            return PAGE_SIZE - slotOffset(state.slotCount(page)) - freeBytes(page);
        }

        /** The gap that a page has or would have with a number of slots. */
        private int gapWith(int page, int slots) {
            return state.byteAt(page, LOWEST_RECORD) - slotOffset(slots);
        }

        /** The empty slot with the lowest number, or else the number of a new slot. */
        private int slotToUse(int page) {
            int slots = state.slotCount(page);
            for (int slot = 0; slot < slots; slot++) {
                if (state.sizeOf(page, slot) == 0) {
                    return slot;
                }
            }
            return slots;
        }

        private boolean hasRoom(int page, int size) {
            int slots = state.slotCount(page);
            if (slotToUse(page) < slots) {
                return size <= freeBytes(page);
            }
            return slots < MOST_SLOTS && size + SLOT_SIZE <= freeBytes(page);
        }

        /** The page for a record, the number of pages if it is a new one, NONE if there is none. */
        private int findPage(int size, int exceptOne, int exceptOther) {
            for (int page = 0; page < state.pageCount; page++) {
                if (page != exceptOne && page != exceptOther && hasRoom(page, size)) {
                    return page;
                }
            }
            return state.pageCount < MOST_PAGES ? state.pageCount : NONE;
        }

        private void openIfNew(int page) {
            if (page == state.pageCount && page < MOST_PAGES) {
                state.setByte(page, LOWEST_RECORD, PAGE_SIZE);
                state.pageCount++;
            }
        }

        private int recordsThatFit(int page, int size) {
            int slots = state.slotCount(page);
            int room = freeBytes(page);
            int fitting = 0;
            for (int slot = 0; slot < MOST_SLOTS; slot++) {
                boolean isNew = slot >= slots;
                if (isNew || state.sizeOf(page, slot) == 0) {
                    room -= isNew ? size + SLOT_SIZE : size;
                    if (room < 0) {
                        return fitting;
                    }
                    fitting++;
                }
            }
            return fitting;
        }

        /** Removes a record but lets its slot stand, even if it is the last one. */
        private void eraseRecord(int page, int slot) {
            int offset = state.offsetOf(page, slot);
            int size = state.sizeOf(page, slot);
            for (int i = 0; i < size; i++) {
                state.setByte(page, offset + i, 0);
            }
            state.setByte(page, slotOffset(slot), 0);
            state.setByte(page, slotOffset(slot) + 1, 0);
            int slots = state.slotCount(page);
            int lowest = PAGE_SIZE;
            for (int other = 0; other < slots; other++) {
                if (state.sizeOf(page, other) > 0) {
                    lowest = Math.min(lowest, state.offsetOf(page, other));
                }
            }
            state.setByte(page, LOWEST_RECORD, lowest);
        }

        private void removeRecord(int place) {
            int page = pageIn(place);
            eraseRecord(page, slotIn(place));
            int slots = state.slotCount(page);
            while (slots > 0 && state.sizeOf(page, slots - 1) == 0) {
                slots--;
            }
            state.setByte(page, SLOT_COUNT, slots);
        }

        /** Puts a record into an empty slot, into a new one, or in the place of the slot's old record. */
        private void putRecord(int place, Bytes bytes) {
            int page = pageIn(place);
            int slot = slotIn(place);
            if (slot < state.slotCount(page)) {
                eraseRecord(page, slot);
            }
            int slots = Math.max(state.slotCount(page), slot + 1);
            // A new slot can lie on bytes of the lowest record until the page is compacted,
            // so the number of slots grows only after that.
            if (gapWith(page, slots) < bytes.count) {
                compactPage(page);
            }
            state.setByte(page, SLOT_COUNT, slots);
            int offset = state.byteAt(page, LOWEST_RECORD) - bytes.count;
            for (int i = 0; i < bytes.count; i++) {
                state.setByte(page, offset + i, bytes.at(i));
            }
            state.setByte(page, slotOffset(slot), offset);
            state.setByte(page, slotOffset(slot) + 1, bytes.count);
            state.setByte(page, LOWEST_RECORD, offset);
        }

        private int compactPage(int page) {
            int slots = state.slotCount(page);
            // Records may move over one another, so their bytes are kept aside.
            before.empty();
            for (int offset = 0; offset < PAGE_SIZE; offset++) {
                before.add(state.byteAt(page, offset));
            }
            for (int offset = slotOffset(slots); offset < PAGE_SIZE; offset++) {
                state.setByte(page, offset, 0);
            }
            int lowest = PAGE_SIZE;
            int changed = 0;
            for (int slot = 0; slot < slots; slot++) {
                int size = state.sizeOf(page, slot);
                int offset = state.offsetOf(page, slot);
                lowest -= size;
                for (int i = 0; i < size; i++) {
                    state.setByte(page, lowest + i, before.at(offset + i));
                }
                if (size > 0 && offset != lowest) {
                    state.setByte(page, slotOffset(slot), lowest);
                    changed++;
                }
            }
            state.setByte(page, LOWEST_RECORD, lowest);
            state.compactionCount++;
            return changed;
        }
    }

    /** A short list of bytes with a greatest length, made once and used again. */
    private static final class Bytes {
        private final int[] values;
        private int count;

        private Bytes(int most) {
            values = new int[Math.max(0, most)];
        }

        private int at(int index) {
            return index >= 0 && index < count && index < values.length ? values[index] : 0;
        }

        private void add(int value) {
            if (count >= 0 && count < values.length) {
                values[count] = value;
                count++;
            }
        }

        private void addAll(Bytes other) {
            for (int i = 0; i < other.count; i++) {
                add(other.at(i));
            }
        }

        private void empty() {
            count = 0;
        }

        private void takePart(Bytes other, int from, int to) {
            empty();
            for (int i = from; i < to; i++) {
                add(other.at(i));
            }
        }
    }

    /** Reads an order text byte by byte and refuses the first byte with which no order text can go on. */
    private static final class OrderReader {
        private static final int MOST_LETTERS = 40;
        private static final int GREATEST_NUMBER = 799;

        private static final int BEFORE_ORDER = 0;
        private static final int IN_DATA = 1;
        private static final int IN_NUMBER_TO_UPDATE = 2;
        private static final int IN_NUMBER_TO_DELETE = 3;
        private static final int AFTER_ORDER = 4;

        private int stage;
        private int letters;
        private int digits;
        private int number;

        private void restart() {
            enter(BEFORE_ORDER);
        }

        private boolean mayEnd() {
            switch (stage) {
                case IN_DATA:
                    return letters > 0;
                case IN_NUMBER_TO_DELETE:
                    return digits > 0;
                default:
                    return stage == AFTER_ORDER;
            }
        }

        private boolean accepts(int sign) {
            if (sign == ';') {
                return mayEnd() && enter(BEFORE_ORDER);
            }
            switch (stage) {
                case BEFORE_ORDER:
                    return acceptsFirst(sign);
                case IN_DATA:
                    return acceptsLetter(sign);
                case IN_NUMBER_TO_UPDATE:
                    return sign == ':' ? digits > 0 && enter(IN_DATA) : acceptsDigit(sign);
                case IN_NUMBER_TO_DELETE:
                    return acceptsDigit(sign);
                default:
                    return false;
            }
        }

        private boolean acceptsFirst(int sign) {
            switch (sign) {
                case '+':
                    return enter(IN_DATA);
                case '=':
                    return enter(IN_NUMBER_TO_UPDATE);
                case '-':
                    return enter(IN_NUMBER_TO_DELETE);
                case '^':
                    return enter(AFTER_ORDER);
                default:
                    return false;
            }
        }

        private boolean acceptsLetter(int sign) {
            letters++;
            return sign >= 'a' && sign <= 'z' && letters <= MOST_LETTERS;
        }

        private boolean acceptsDigit(int sign) {
            if (sign < '0' || sign > '9' || digits > 0 && number == 0) {
                return false;
            }
            digits++;
            number = 10 * number + sign - '0';
            return number <= GREATEST_NUMBER;
        }

        /** Answers true, for whoever enters a stage accepts the byte that leads to it. */
        private boolean enter(int newStage) {
            stage = newStage;
            letters = 0;
            digits = 0;
            number = 0;
            return true;
        }
    }
}

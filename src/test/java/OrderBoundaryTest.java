import java.util.function.IntPredicate;

/** The sentences of "Order text" that name a boundary, and promises 2 to 4, 31 and 32 about them. */
public final class OrderBoundaryTest {
    private static final Due DUE = new Due("boundaries of the buffer and of order text");

    private static final String FORTY = "abcdefghijklmnopqrstuvwxyzabcdefghijklmn";

    public static void main(String[] args) {
        emptyBuffer();
        fullBufferByAppend();
        fullBufferByFill();
        clearedBuffer();
        otherCallsKeepTheBuffer();
        everyNextByte();
        completeTexts();
        data();
        identifiers();
        firstOfSeveralErrors();
        textsThatTheBufferIsTooShortFor();
        longestTexts();
        emptiesTheBuffer();
        stopsAtEachOrder();
        savesOneState();
        doesAsTheMethods();
        DUE.end();
    }

    private static void emptyBuffer() {
        DUE.sentence("The buffer contains at most 60 bytes and is empty at first.");
        HeapFile x = new HeapFile();
        DUE.answers("firstError() of no byte", 0, x::firstError);
        DUE.answers("clearBuffer() at first", 0, x::clearBuffer);
        DUE.answers("insert() at first", 0, x::insert);
        DUE.answers("length(0)", 0, () -> x.length(0));
        x.append(1);
        DUE.answers("update(0)", 1, () -> x.update(0));
        DUE.answers("clearBuffer() after update()", 0, x::clearBuffer);
        x.append(1);
        x.insert();
        DUE.answers("clearBuffer() after insert()", 0, x::clearBuffer);
        DUE.argument("run() of no byte", x::run);
    }

    private static void fullBufferByAppend() {
        DUE.sentence("Throws IllegalStateException if the buffer contains 60 bytes");
        HeapFile x = new HeapFile();
        for (int i = 1; i <= 60; i++) {
            int value = 100 + i;
            DUE.answers("append() number " + i, i, () -> x.append(value));
        }
        DUE.state("append(0) number 61", () -> x.append(0));
        DUE.state("append(255) number 61", () -> x.append(255));
        DUE.argument("append(-1) number 61", () -> x.append(-1));
        DUE.argument("append(256) number 61", () -> x.append(256));
        DUE.answers("insert()", 0, x::insert);
        DUE.answers("the row", Steps.counting(60, 101), () -> Steps.rowOf(x, 0));
        DUE.answers("append(0)", 1, () -> x.append(0));
        DUE.answers("append(255)", 2, () -> x.append(255));
        DUE.answers("insert()", 1, x::insert);
        DUE.answers("the row", "0 255", () -> Steps.rowOf(x, 1));
    }

    private static void fullBufferByFill() {
        DUE.sentence("Throws IllegalStateException if the buffer would contain more than 60 bytes");
        for (int before = 0; before <= 60; before++) {
            HeapFile x = new HeapFile();
            Steps.buffer(x, before, 1);
            int rest = 60 - before;
            int had = before;
            DUE.answers("fill(" + (rest + 1) + ", 2) to " + before,
                rest == 60 ? "throws.IllegalArgumentException" : "throws.IllegalStateException", () -> x.fill(rest + 1, 2));
            DUE.answers("fill(60, 255) to " + before, rest == 60 ? "60" : "throws.IllegalStateException", () -> x.fill(60, 255));
            DUE.answers("clearBuffer()", rest == 60 ? 60 : had, x::clearBuffer);
            Steps.buffer(x, before, 1);
            DUE.answers("fill(" + rest + ", 0) to " + before,
                rest == 0 ? "throws.IllegalArgumentException" : "60", () -> x.fill(rest, 0));
            DUE.state("append(0) to 60 bytes", () -> x.append(0));
            x.insert();
            DUE.answers("the row", (" 1".repeat(before) + " 0".repeat(rest)).substring(1), () -> Steps.rowOf(x, 0));
        }
    }

    private static void clearedBuffer() {
        DUE.sentence("Returns the length that it had.");
        for (int length : new int[] {0, 1, 59, 60}) {
            HeapFile x = new HeapFile();
            Steps.buffer(x, length, 1);
            DUE.answers("clearBuffer()", length, x::clearBuffer);
            DUE.answers("clearBuffer() once more", 0, x::clearBuffer);
            DUE.answers("firstError()", 0, x::firstError);
            DUE.answers("fill(60, 1)", 60, () -> x.fill(60, 1));
        }
    }

    private static void otherCallsKeepTheBuffer() {
        DUE.sentence("The buffer contains at most 60 bytes");
        Twins.Request[] calls = {y -> y.delete(0), y -> y.delete(2), HeapFile::bringHome, y -> y.compact(0), HeapFile::undo};
        for (int length : new int[] {0, 1, 60}) {
            for (int i = 0; i < calls.length; i++) {
                HeapFile x = Steps.withMoved();
                Steps.countingBuffer(x, length, 100);
                calls[i].of(x);
                int row = x.insert();
                DUE.answers("the buffer after call " + i, Steps.counting(length, 100), () -> Steps.rowOf(x, row));
            }
        }
    }

    private static boolean isDigit(int value) {
        return value >= '0' && value <= '9';
    }

    private static boolean isLetter(int value) {
        return value >= 'a' && value <= 'z';
    }

    /** After a beginning, all 256 bytes: those that may come next, and those that are errors. */
    private static void everyNextByte() {
        DUE.sentence("A byte of the buffer is an error if no order text, however long, begins with the bytes before it and this "
            + "byte.");
        IntPredicate order = value -> value == '+' || value == '=' || value == '-' || value == '^';
        IntPredicate letter = OrderBoundaryTest::isLetter;
        IntPredicate digit = OrderBoundaryTest::isDigit;
        IntPredicate colon = value -> value == ':';
        IntPredicate semicolon = value -> value == ';';
        next(order, "", "^;", "+a;", "-0;", "-799;", "=0:a;", "=12:z;", "+" + FORTY + ";", "^;^;^;");
        next(letter, "+", "^;+", "=0:", "=799:", "=80:", "+a;=7:");
        next(letter.or(semicolon), "+a", "+z", "+az", "=0:a", "=799:zz", "+" + FORTY.substring(1), "=7:" + FORTY.substring(1));
        next(semicolon, "+" + FORTY, "=0:" + FORTY, "=799:" + FORTY, "^;+" + FORTY, "^", "^;^", "+a;^");
        next(digit, "=", "-", "^;=", "^;-", "-7;-");
        next(digit.or(colon), "=1", "=7", "=8", "=9", "=10", "=12", "=70", "=79", "^;=79");
        next(colon, "=0", "=80", "=81", "=99", "=100", "=700", "=799", "^;=0", "-7;=799");
        next(digit.or(semicolon), "-1", "-7", "-8", "-9", "-10", "-70", "-79", "^;-79");
        next(semicolon, "-0", "-80", "-81", "-99", "-100", "-700", "-799", "^;-0", "=7:a;-799");
    }

    private static void next(IntPredicate accepted, String... beginnings) {
        for (String beginning : beginnings) {
            HeapFile x = new HeapFile();
            for (int value = 0; value < 256; value++) {
                Steps.buffer(x, beginning);
                x.append(value);
                int due = beginning.length() + (accepted.test(value) ? 1 : 0);
                DUE.answers("firstError() of " + beginning + " and the byte " + value, due, x::firstError);
            }
        }
    }

    private static void completeTexts() {
        DUE.sentence("An order text is one or more orders with \";\" between them, as character codes.");
        String[] complete = {"^", "+a", "-0", "=0:a", "^;^", "-799", "=799:z", "+" + FORTY, "=0:" + FORTY, "-80", "-8", "^;-79"};
        for (String text : complete) {
            DUE.answers("firstError() of " + text, text.length(), () -> Steps.firstError(new HeapFile(), text));
            DUE.same("run() of " + text + " throws", Due.outcome(() -> Steps.run(new HeapFile(), text)).startsWith("throws"), false);
        }
        String[] incomplete = {"", "+", "-", "=", "=0", "=799", "=0:", "=799:", "^;", "+a;", "-0;", "=0:a;", "^;+", "^;-", "^;=7"};
        for (String text : incomplete) {
            DUE.answers("firstError() of " + text, text.length(), () -> Steps.firstError(new HeapFile(), text));
            DUE.argument("run() of " + text, () -> Steps.run(new HeapFile(), text));
        }
        String[] wrong = {";", ";^", "^;;^", "^^", "+a^", "^;;", " ^", "^ ", "+a,+b", "-0-0", "=0=0"};
        for (String text : wrong) {
            DUE.argument("run() of " + text, () -> Steps.run(new HeapFile(), text));
        }
    }

    private static void data() {
        DUE.sentence("Data are 1 to 40 small letters.");
        for (int letters = 0; letters <= 42; letters++) {
            HeapFile x = new HeapFile();
            x.insert();
            String data = (FORTY + FORTY).substring(0, letters);
            boolean allowed = letters >= 1 && letters <= 40;
            int error = Math.min(letters, 40);
            DUE.answers("firstError() of +" + data, 1 + error, () -> Steps.firstError(x, "+" + data));
            DUE.answers("run() of +" + data, allowed ? 1 : "throws.IllegalArgumentException", () -> Steps.run(x, "+" + data));
            DUE.answers("firstError() of =0:" + data, 3 + error, () -> Steps.firstError(x, "=0:" + data));
            DUE.answers("run() of =0:" + data, allowed ? 1 : "throws.IllegalArgumentException",
                () -> Steps.run(x, "=0:" + data));
            if (allowed) {
                DUE.answers("length(0)", data.length(), () -> x.length(0));
                DUE.answers("length(1)", data.length(), () -> x.length(1));
                DUE.answers("byteOf(1, last)", (int) data.charAt(data.length() - 1), () -> x.byteOf(1, data.length() - 1));
                DUE.answers("the rows are the same", Steps.rowOf(x, 0), () -> Steps.rowOf(x, 1));
            }
        }
    }

    private static void identifiers() {
        DUE.sentence("An identifier is a number from 0 to 799 without leading zeros.");
        HeapFile x = new HeapFile();
        for (int number = 0; number <= 1010; number++) {
            String digits = String.valueOf(number);
            boolean allowed = number <= 799;
            // 800 to 999 go wrong at their third digit, four digits at the fourth or before.
            int error = allowed ? digits.length() : number <= 999 ? 2 : 3;
            DUE.answers("firstError() of -" + number, 1 + error, () -> Steps.firstError(x, "-" + digits));
            DUE.answers("run() of -" + number, allowed ? 0 : "throws.IllegalArgumentException", x::run);
            DUE.answers("firstError() of =" + number + ":a", allowed ? 3 + error : 1 + error,
                () -> Steps.firstError(x, "=" + digits + ":a"));
            DUE.answers("run() of =" + number + ":a", allowed ? 0 : "throws.IllegalArgumentException", x::run);
        }
        for (String digits : new String[] {"00", "01", "007", "0799", "000"}) {
            DUE.answers("firstError() of -" + digits, 2, () -> Steps.firstError(x, "-" + digits));
            DUE.argument("run() of -" + digits, x::run);
            DUE.answers("firstError() of =" + digits + ":a", 2, () -> Steps.firstError(x, "=" + digits + ":a"));
            DUE.argument("run() of =" + digits + ":a", x::run);
        }
        // Rows with identifiers of one, two and three digits, the least and the greatest.
        HeapFile y = new HeapFile();
        for (int i = 0; i < 200; i++) {
            Steps.insert(y, 0, 0);
        }
        for (int row : new int[] {0, 9, 10, 24, 100, 109, 124, 700, 724}) {
            DUE.answers("run() of =" + row + ":q", 1, () -> Steps.run(y, "=" + row + ":q"));
            DUE.answers("the row", "113", () -> Steps.rowOf(y, row));
            DUE.answers("run() of -" + row, 1, () -> Steps.run(y, "-" + row));
            DUE.answers("isRow(" + row + ")", false, () -> y.isRow(row));
        }
        DUE.answers("run() of -725", 0, () -> Steps.run(y, "-725"));
        DUE.answers("run() of -25", 0, () -> Steps.run(y, "-25"));
        DUE.answers("rows()", 191, y::rows);
    }

    private static void firstOfSeveralErrors() {
        DUE.sentence("Returns the index of the first byte that is an error; the length of the buffer if there is none (also if "
            + "the buffer is not a complete order text).");
        HeapFile x = new HeapFile();
        DUE.answers("firstError() of +aBC;^", 2, () -> Steps.firstError(x, "+aBC;^"));
        DUE.answers("firstError() of ;;;", 0, () -> Steps.firstError(x, ";;;"));
        DUE.answers("firstError() of ^;-08;+", 4, () -> Steps.firstError(x, "^;-08;+"));
        DUE.answers("firstError() of -0;-800;^", 6, () -> Steps.firstError(x, "-0;-800;^"));
        Steps.buffer(x, 60, '^');
        DUE.answers("firstError() of 60 times ^", 1, x::firstError);
        x.clearBuffer();
        x.append('+');
        x.fill(59, 'a');
        DUE.answers("firstError() of + and 59 letters", 41, x::firstError);
        Steps.buffer(x, "^;".repeat(29) + "^");
        x.append('!');
        DUE.answers("firstError() at the last of 60 bytes", 59, x::firstError);
        DUE.answers("clearBuffer()", 60, x::clearBuffer);
    }

    private static void textsThatTheBufferIsTooShortFor() {
        DUE.sentence("A byte of the buffer is an error if no order text, however long, begins with the bytes before it and this "
            + "byte.");
        for (String end : new String[] {"^;", "^+", "+a", "-0", "=0", "=7", "-7", "+z"}) {
            HeapFile x = new HeapFile();
            String text = "^;".repeat(29) + end;
            int due = end.equals("^+") ? 59 : 60;
            DUE.answers("firstError() of " + text, due, () -> Steps.firstError(x, text));
        }
        HeapFile y = new HeapFile();
        Steps.buffer(y, "^;".repeat(29) + "=0");
        DUE.argument("run() of a text that needs more than 60 bytes", y::run);
        DUE.answers("firstError()", 60, y::firstError);
        Steps.buffer(y, "^;".repeat(29) + "^;");
        DUE.argument("run() of a text that needs more than 60 bytes", y::run);
        DUE.answers("clearBuffer()", 60, y::clearBuffer);
    }

    private static void longestTexts() {
        DUE.sentence("Returns the number of orders that are executed.");
        HeapFile x = new HeapFile();
        DUE.answers("run() of 1 byte", 1, () -> Steps.run(x, "^"));
        DUE.answers("run() of 59 bytes", 30, () -> Steps.run(x, "^;".repeat(29) + "^"));
        DUE.answers("run() of 60 bytes", 2, () -> Steps.run(x, "+" + FORTY + ";=0:" + FORTY.substring(0, 15)));
        DUE.answers("length(0)", 15, () -> x.length(0));
        DUE.answers("byteOf(0, 14)", (int) 'o', () -> x.byteOf(0, 14));
        DUE.answers("run() of 60 bytes, the last one an identifier's", 30, () -> Steps.run(x, "^;".repeat(29) + "-0"));
        DUE.answers("rows()", 0, x::rows);
        DUE.answers("run() of 20 rows in 59 bytes", 20, () -> Steps.run(x, "+a;".repeat(19) + "+a"));
        DUE.answers("rows()", 20, x::rows);
    }

    private static void emptiesTheBuffer() {
        DUE.sentence("up to the first one whose method would throw an exception, and empties the buffer");
        for (String text : new String[] {"^", "-0", "^;-0;^", "+a;=1:b", "+a"}) {
            HeapFile x = new HeapFile();
            Steps.run(x, text);
            DUE.answers("clearBuffer() after run() of " + text, 0, x::clearBuffer);
        }
        DUE.sentence("Throws IllegalArgumentException if the buffer is not a complete order text (the buffer stays)");
        for (String text : new String[] {"", "+", "^;", "+a;=0", "A", "+" + FORTY + "a", "^;".repeat(30), "-800"}) {
            HeapFile x = new HeapFile();
            DUE.argument("run() of " + text, () -> Steps.run(x, text));
            DUE.answers("pages()", 0, x::pages);
            DUE.answers("savedStates()", 0, x::savedStates);
            DUE.answers("clearBuffer() after run() of " + text, text.length(), x::clearBuffer);
        }
        // An order that could be executed stands before the error: it is not.
        HeapFile y = new HeapFile();
        DUE.argument("run() of +a;+b;", () -> Steps.run(y, "+a;+b;"));
        DUE.answers("rows()", 0, y::rows);
        y.append('+');
        y.append('c');
        DUE.answers("run() of the same buffer, made complete", 3, y::run);
        DUE.answers("rows()", 3, y::rows);
    }

    private static void stopsAtEachOrder() {
        DUE.sentence("Executes the orders in the buffer, one after the other, up to the first one whose method would throw an "
            + "exception");
        HeapFile x = Steps.fullFile();
        long before = x.digest();
        String[] refused = {"+a", "=2:abc", "=3:a", "-3", "-799", "=799:a"};
        for (String order : refused) {
            DUE.answers("run() of " + order, 0, () -> Steps.run(x, order));
            DUE.answers("digest() after " + order, before, x::digest);
            DUE.answers("run() of ^;" + order + ";-0", 1, () -> Steps.run(x, "^;" + order + ";-0"));
            DUE.answers("digest() after ^;" + order + ";-0", before, x::digest);
        }
        DUE.answers("run() of =2:ab;+a;-0", 1, () -> Steps.run(x, "=2:ab;+a;-0"));
        DUE.answers("row 2", "97 98", () -> Steps.rowOf(x, 2));
        DUE.answers("isRow(0)", true, () -> x.isRow(0));
        DUE.answers("run() of -0;+a;+b;-4;-1", 3, () -> Steps.run(x, "-0;+a;+b;-4;-1"));
        DUE.answers("isRow(3)", true, () -> x.isRow(3));
        DUE.answers("isRow(1)", true, () -> x.isRow(1));
        // The row that an order before inserts or deletes counts for those after it.
        HeapFile y = new HeapFile();
        DUE.answers("run() of +a;=0:bc;-0;-0;+d", 3, () -> Steps.run(y, "+a;=0:bc;-0;-0;+d"));
        DUE.answers("rows()", 0, y::rows);
        DUE.answers("pages()", 1, y::pages);
        // A moved row's place is no identifier, a note's is.
        HeapFile z = Steps.withMoved();
        DUE.answers("run() of -102", 0, () -> Steps.run(z, "-102"));
        DUE.answers("run() of =102:a", 0, () -> Steps.run(z, "=102:a"));
        DUE.answers("run() of -2;-2", 1, () -> Steps.run(z, "-2;-2"));
        DUE.answers("kind(102)", 0, () -> z.kind(102));
    }

    private static void savesOneState() {
        DUE.sentence("Undoable, as one call, also if no order is executed.");
        HeapFile x = new HeapFile();
        DUE.answers("run() of -0", 0, () -> Steps.run(x, "-0"));
        DUE.answers("savedStates()", 1, x::savedStates);
        long before = x.digest();
        DUE.answers("run() of ten orders", 10, () -> Steps.run(x, "+a;+b;+c;=0:d;-1;^;+e;+f;-2;=3:g"));
        DUE.answers("savedStates()", 2, x::savedStates);
        DUE.answers("undo() of ten orders", 1, x::undo);
        DUE.answers("digest()", before, x::digest);
        DUE.answers("pages()", 0, x::pages);
        for (int i = 2; i <= 8; i++) {
            int want = Math.min(i, 6);
            DUE.answers("run() of ^", 1, () -> Steps.run(x, "^"));
            DUE.answers("savedStates()", want, x::savedStates);
        }
    }

    /** Orders, and the same calls of the methods, end in the same file. */
    private static void doesAsTheMethods() {
        DUE.sentence("a row with these bytes is inserted, like insert()");
        HeapFile x = Steps.withMoved();
        HeapFile y = Steps.withMoved();
        Steps.run(x, "=2:abcd;=1:abcdefghijklmnopqrstuvwxyz;-0;+xyz;=101:a;^;-1");
        method(y, "abcd", 2);
        method(y, FORTY.substring(0, 26), 1);
        y.delete(0);
        method(y, "xyz", HeapFile.NONE);
        method(y, "a", 101);
        y.bringHome();
        y.delete(1);
        DUE.answers("digest()", y.digest(), x::digest);
        DUE.answers("returns()", 1, x::returns);
        DUE.answers("the row inserted", "120 121 122", () -> Steps.rowOf(x, 0));
    }

    private static void method(HeapFile y, String data, int row) {
        Steps.buffer(y, data);
        if (row == HeapFile.NONE) {
            y.insert();
        } else {
            y.update(row);
        }
    }
}

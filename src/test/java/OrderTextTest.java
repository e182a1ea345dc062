/** Promises 31 and 32: firstError, run. */
public final class OrderTextTest {
    private static final Due DUE = new Due("promises 31 and 32");
    private static final String LETTERS = "abcdefghijklmnopqrstuvwxyzabcdefghijklmn";

    public static void main(String[] args) {
        errors();
        everyByteAtTheStart();
        incomplete();
        executes();
        changesAsUpdateDoes();
        stopsAtTheFirstFailure();
        stopsForWantOfRoom();
        DUE.end();
    }

    private static void errors() {
        HeapFile x = new HeapFile();
        DUE.answers("firstError() of an empty buffer", 0, x::firstError);
        Object[][] due = {
            {"+abc", 4}, {"+", 1}, {"+;", 1}, {"+A", 1}, {"+`", 1}, {"+{", 1}, {"+az", 3}, {"+a b", 2}, {"+a1", 2},
            {"+a;", 3}, {"+a;;", 3}, {"+a;+", 4}, {"+a+b", 2}, {";+a", 0}, {"a", 0}, {" +a", 0}, {"+a; -0", 3},
            {"+" + LETTERS, 41}, {"+" + LETTERS + "a", 41}, {"+" + LETTERS + ";^", 43},
            {"=0:" + LETTERS, 43}, {"=0:" + LETTERS + "z", 43}, {"=799:" + LETTERS + ";-799", 50},
            {"=", 1}, {"=:", 1}, {"=;", 1}, {"=a", 1}, {"=/", 1}, {"=0", 2}, {"=00", 2}, {"=01:a", 2}, {"=0:", 3},
            {"=0:;", 3}, {"=0;", 2}, {"=0a", 2}, {"=5:a:", 4}, {"=79", 3}, {"=799", 4}, {"=799:b", 6}, {"=7990", 4},
            {"=80", 3}, {"=80:c", 5}, {"=800", 3}, {"=809:c", 3}, {"=99", 3}, {"=990", 3}, {"=100:d", 6}, {"=1000", 4},
            {"-", 1}, {"-;", 1}, {"-0", 2}, {"-0;", 3}, {"-00", 2}, {"-7", 2}, {"-79", 3}, {"-799", 4}, {"-800", 3},
            {"-7:", 2}, {"-7:a", 2}, {"--7", 1}, {"-7;-8", 5}, {"-12a", 3}, {"-700;-800", 8},
            {"^", 1}, {"^;", 2}, {"^^", 1}, {"^;^", 3}, {"^a", 1}, {"^0", 1}, {"^;;", 2}, {"^;+x;=1:y;-2;^", 14}};
        for (Object[] pair : due) {
            DUE.answers("firstError() of " + pair[0], pair[1], () -> Steps.firstError(x, (String) pair[0]));
        }
        DUE.answers("savedStates()", 0, x::savedStates);
        DUE.answers("firstError() keeps the buffer", 14, x::clearBuffer);
    }

    private static void everyByteAtTheStart() {
        HeapFile x = new HeapFile();
        for (int value = 0; value < 256; value++) {
            int want = value == '+' || value == '=' || value == '-' || value == '^' ? 1 : 0;
            Steps.buffer(x, 1, value);
            DUE.answers("firstError() of byte " + value, want, x::firstError);
            Steps.buffer(x, 2, value);
            DUE.answers("firstError() of byte " + value + " twice", want, x::firstError);
        }
    }

    private static void incomplete() {
        HeapFile x = new HeapFile();
        DUE.argument("run() of an empty buffer", x::run);
        String[] texts = {"+", "=", "=0", "=0:", "-", "+a;", "^;", "-0;", "+a;=", "+A", "^^", "-800", "=1:a;-", "+a;-00",
            "+" + LETTERS + "a"};
        for (String text : texts) {
            DUE.argument("run() of " + text, () -> Steps.run(x, text));
            DUE.answers("the buffer after " + text, text.length(), x::clearBuffer);
        }
        DUE.answers("rows()", 0, x::rows);
        DUE.answers("savedStates()", 0, x::savedStates);
    }

    private static void executes() {
        HeapFile x = new HeapFile();
        DUE.answers("run() of ^", 1, () -> Steps.run(x, "^"));
        DUE.answers("savedStates()", 1, x::savedStates);
        DUE.answers("run() of +ab;+c;+def", 3, () -> Steps.run(x, "+ab;+c;+def"));
        DUE.answers("savedStates()", 2, x::savedStates);
        DUE.answers("run() empties the buffer", 0, x::clearBuffer);
        DUE.answers("rows()", 3, x::rows);
        DUE.answers("records", "1 100 101 102 5 99 0 1 97 98", () -> Steps.bytes(x, 0, 118, 128));
        DUE.answers("run() of =1:xyz;-0;^", 3, () -> Steps.run(x, "=1:xyz;-0;^"));
        DUE.answers("length(1)", 3, () -> x.length(1));
        DUE.answers("byteOf(1, 2)", 122, () -> x.byteOf(1, 2));
        DUE.answers("isRow(0)", false, () -> x.isRow(0));
        DUE.answers("undo()", 2, x::undo);
        DUE.answers("rows()", 3, x::rows);
        DUE.answers("length(1)", 1, () -> x.length(1));
        DUE.answers("undo()", 1, x::undo);
        DUE.answers("rows()", 0, x::rows);
        DUE.answers("run() of 40 letters", 1, () -> Steps.run(x, "+" + LETTERS));
        DUE.answers("length(0)", 40, () -> x.length(0));
        DUE.answers("byteOf(0, 39)", (int) 'n', () -> x.byteOf(0, 39));
    }

    private static void changesAsUpdateDoes() {
        HeapFile x = Steps.fullPage();
        DUE.answers("run() that moves", 1, () -> Steps.run(x, "=2:abcdefgh"));
        DUE.answers("placeOf(2)", 100, () -> x.placeOf(2));
        DUE.answers("moves()", 1, x::moves);
        DUE.answers("run() that replaces", 1, () -> Steps.run(x, "=2:abcdefghi"));
        DUE.answers("length(2)", 9, () -> x.length(2));
        DUE.answers("moves()", 1, x::moves);
        DUE.answers("run() that deletes and brings home", 3, () -> Steps.run(x, "-0;^;=2:abcd"));
        DUE.answers("placeOf(2)", 2, () -> x.placeOf(2));
        DUE.answers("length(2)", 4, () -> x.length(2));
        DUE.answers("returns()", 1, x::returns);
        DUE.answers("savedStates()", 6, x::savedStates);
        HeapFile z = Steps.fullPage();
        Steps.update(z, 2, 8, 1);
        z.delete(0);
        DUE.answers("run() that brings home", 1, () -> Steps.run(z, "^"));
        DUE.answers("placeOf(2)", 2, () -> z.placeOf(2));
        DUE.answers("length(2)", 8, () -> z.length(2));
        DUE.answers("returns()", 1, z::returns);
        // Identifiers of two and three digits.
        HeapFile y = new HeapFile();
        for (int i = 0; i < 26; i++) {
            Steps.insert(y, 0, 0);
        }
        DUE.answers("run()", 3, () -> Steps.run(y, "=100:q;-24;=13:r"));
        DUE.answers("byteOf(100, 0)", 113, () -> y.byteOf(100, 0));
        DUE.answers("byteOf(13, 0)", 114, () -> y.byteOf(13, 0));
        DUE.answers("isRow(24)", false, () -> y.isRow(24));
    }

    private static void stopsAtTheFirstFailure() {
        HeapFile x = new HeapFile();
        DUE.answers("run() of -0", 0, () -> Steps.run(x, "-0"));
        DUE.answers("savedStates() with no order executed", 1, x::savedStates);
        DUE.answers("run() with no order executed empties the buffer", 0, x::clearBuffer);
        DUE.answers("run() of +a;-1;+b", 1, () -> Steps.run(x, "+a;-1;+b"));
        DUE.answers("rows()", 1, x::rows);
        DUE.answers("clearBuffer()", 0, x::clearBuffer);
        DUE.answers("run() of =0:bc;=799:d;-0", 1, () -> Steps.run(x, "=0:bc;=799:d;-0"));
        DUE.answers("length(0)", 2, () -> x.length(0));
        DUE.answers("run() of -0;-0", 1, () -> Steps.run(x, "-0;-0"));
        DUE.answers("rows()", 0, x::rows);
        DUE.answers("undo()", 3, x::undo);
        DUE.answers("rows()", 1, x::rows);
        // The place of a moved row is no identifier.
        HeapFile y = Steps.fullPage();
        Steps.update(y, 2, 8, 1);
        DUE.answers("run() of -100", 0, () -> Steps.run(y, "-100"));
        DUE.answers("run() of =100:a", 0, () -> Steps.run(y, "=100:a"));
    }

    private static void stopsForWantOfRoom() {
        HeapFile x = Steps.fullFile();
        long before = x.digest();
        DUE.answers("run() of +a", 0, () -> Steps.run(x, "+a"));
        DUE.answers("run() of =2:abc", 0, () -> Steps.run(x, "=2:abc"));
        DUE.answers("run() of ^;=2:abc;-0", 1, () -> Steps.run(x, "^;=2:abc;-0"));
        DUE.answers("digest()", before, x::digest);
        DUE.answers("run() of =2:ab;-0;+a;=2:abc", 4, () -> Steps.run(x, "=2:ab;-0;+a;=2:abc"));
        DUE.answers("run() of -701;=2:" + LETTERS, 2, () -> Steps.run(x, "-701;=2:" + LETTERS));
    }
}

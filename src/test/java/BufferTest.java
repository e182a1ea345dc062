/** Promises 2 to 4: append, fill, clearBuffer. */
public final class BufferTest {
    private static final Due DUE = new Due("promises 2 to 4");

    public static void main(String[] args) {
        append();
        fill();
        clearBuffer();
        DUE.end();
    }

    private static void append() {
        HeapFile x = new HeapFile();
        DUE.answers("append(0)", 1, () -> x.append(0));
        DUE.answers("append(255)", 2, () -> x.append(255));
        DUE.argument("append(256)", () -> x.append(256));
        DUE.argument("append(-1)", () -> x.append(-1));
        DUE.argument("append(MIN)", () -> x.append(Integer.MIN_VALUE));
        DUE.argument("append(MAX)", () -> x.append(Integer.MAX_VALUE));
        DUE.answers("append(128)", 3, () -> x.append(128));
        x.insert();
        DUE.answers("byteOf(0, 0)", 0, () -> x.byteOf(0, 0));
        DUE.answers("byteOf(0, 1)", 255, () -> x.byteOf(0, 1));
        DUE.answers("byteOf(0, 2)", 128, () -> x.byteOf(0, 2));
        for (int i = 1; i <= 60; i++) {
            DUE.answers("append(9)", i, () -> x.append(9));
        }
        DUE.state("append(9) to 60 bytes", () -> x.append(9));
        DUE.argument("append(256) to 60 bytes", () -> x.append(256));
        DUE.argument("append(-1) to 60 bytes", () -> x.append(-1));
        DUE.answers("clearBuffer()", 60, x::clearBuffer);
    }

    private static void fill() {
        HeapFile x = new HeapFile();
        for (int count : new int[] {Integer.MIN_VALUE, -1, 0, 61, Integer.MAX_VALUE}) {
            DUE.argument("fill(" + count + ", 1)", () -> x.fill(count, 1));
        }
        for (int value : new int[] {Integer.MIN_VALUE, -1, 256, Integer.MAX_VALUE}) {
            DUE.argument("fill(1, " + value + ")", () -> x.fill(1, value));
        }
        DUE.answers("fill(1, 0)", 1, () -> x.fill(1, 0));
        DUE.answers("fill(2, 255)", 3, () -> x.fill(2, 255));
        DUE.answers("fill(56, 5)", 59, () -> x.fill(56, 5));
        DUE.state("fill(2, 5) to 59 bytes", () -> x.fill(2, 5));
        DUE.answers("fill(1, 6)", 60, () -> x.fill(1, 6));
        DUE.state("fill(1, 5) to 60 bytes", () -> x.fill(1, 5));
        DUE.state("fill(60, 5) to 60 bytes", () -> x.fill(60, 5));
        DUE.argument("fill(61, 5) to 60 bytes", () -> x.fill(61, 5));
        DUE.argument("fill(60, 256) to 60 bytes", () -> x.fill(60, 256));
        x.insert();
        int[] want = {0, 255, 255, 5};
        for (int i = 0; i < want.length; i++) {
            int index = i;
            DUE.answers("byteOf(0, " + i + ")", want[i], () -> x.byteOf(0, index));
        }
        DUE.answers("byteOf(0, 58)", 5, () -> x.byteOf(0, 58));
        DUE.answers("byteOf(0, 59)", 6, () -> x.byteOf(0, 59));
        DUE.answers("fill(60, 5) to an empty buffer", 60, () -> x.fill(60, 5));
    }

    private static void clearBuffer() {
        HeapFile x = new HeapFile();
        x.fill(7, 1);
        DUE.answers("clearBuffer()", 7, x::clearBuffer);
        DUE.answers("clearBuffer() again", 0, x::clearBuffer);
        DUE.answers("append(1)", 1, () -> x.append(1));
        DUE.answers("savedStates()", 0, x::savedStates);
    }
}

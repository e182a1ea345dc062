/** Promise 1: a new object. */
public final class NewObjectTest {
    public static void main(String[] args) {
        Due due = new Due("promise 1");
        HeapFile x = new HeapFile();
        due.answers("NONE", -1, () -> HeapFile.NONE);
        due.answers("pages()", 0, x::pages);
        due.answers("rows()", 0, x::rows);
        due.answers("notes()", 0, x::notes);
        due.answers("moves()", 0, x::moves);
        due.answers("returns()", 0, x::returns);
        due.answers("compactions()", 0, x::compactions);
        due.answers("savedStates()", 0, x::savedStates);
        due.answers("fillFactor()", 0.0, x::fillFactor);
        due.answers("firstError()", 0, x::firstError);
        due.answers("next(-1)", -1, () -> x.next(-1));
        due.answers("clearBuffer()", 0, x::clearBuffer);
        due.state("undo()", x::undo);
        due.bounds("free(0)", () -> x.free(0));
        due.bounds("length(0)", () -> x.length(0));
        // Two objects share nothing.
        HeapFile other = new HeapFile();
        x.append(7);
        x.insert();
        due.answers("other.pages()", 0, other::pages);
        due.answers("other.clearBuffer()", 0, other::clearBuffer);
        due.answers("other.savedStates()", 0, other::savedStates);
        due.end();
    }
}

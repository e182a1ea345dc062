/**
 * Two files that one recipe makes: a call on the first of them is shown to change nothing by comparing all that the
 * two hold, the buffer and the saved states too.
 */
final class Twins {
    interface Recipe {
        HeapFile made();
    }

    interface Request {
        Object of(HeapFile x);
    }

    private Twins() {
    }

    /** The call throws the exception, and changes nothing. */
    static void refused(Due due, String call, Recipe recipe, String exception, Request request) {
        answered(due, call, recipe, "throws." + exception, request);
    }

    /** The call answers what is due, and changes nothing. */
    static void answered(Due due, String call, Recipe recipe, Object want, Request request) {
        HeapFile called = recipe.made();
        HeapFile other = recipe.made();
        due.same(call, Due.outcome(() -> request.of(called)), String.valueOf(want));
        due.same("the file after " + call, wholeOf(called), wholeOf(other));
    }

    /** All that a file holds, as a text; reading it uses the file up. */
    static String wholeOf(HeapFile x) {
        StringBuilder text = new StringBuilder();
        text.append(x.digest()).append(" saved ").append(x.savedStates()).append(" error ").append(x.firstError());
        for (int left = x.savedStates(); left > 0; left--) {
            text.append(" undo ").append(Due.outcome(x::undo)).append(' ').append(x.digest());
        }
        text.append(" undo ").append(Due.outcome(x::undo)).append(" buffer ").append(bufferOf(x));
        return text.toString();
    }

    /** The buffer's bytes: all rows make room for one that gets them. */
    private static String bufferOf(HeapFile x) {
        for (int row = 0; row < 800; row++) {
            if (x.isRow(row)) {
                x.delete(row);
            }
        }
        return Steps.rowOf(x, x.insert());
    }
}

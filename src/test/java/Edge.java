/** What the tests of the document's edges ask of a call. */
final class Edge {
    static final int NONE = -1, UNKNOWN = -101, OUTSIDE = -102, STATE = -103, FULL = -104;

    private final Check check = new Check();

    /** The numbers just outside a range, and the smallest and largest of all. */
    static int[] outside(int low, int high) {
        return new int[] {
            Integer.MIN_VALUE, Integer.MIN_VALUE + 1, low - 1, high + 1, Integer.MAX_VALUE - 1, Integer.MAX_VALUE
        };
    }

    /** The call answers this in the scene. */
    void due(Scene scene, Call call, long want) {
        check.due(scene + ": " + call, call.on(scene.make()), want);
    }

    void due(Scene scene, String call, long want) {
        due(scene, Call.of(call), want);
    }

    /** The call answers this, and nothing has changed afterwards. */
    void still(Scene scene, Call call, long want) {
        due(scene, call, want);
        String difference = Scene.difference(scene.told(), scene.toldAfter(call));
        check.holds(scene + ": after " + call + " " + difference, difference.isEmpty());
    }

    void still(Scene scene, String call, long want) {
        still(scene, Call.of(call), want);
    }

    /** Each number outside the range is refused as the argument. */
    void stillOutside(Scene scene, String method, int low, int high, long want) {
        for (int wrong : outside(low, high)) {
            still(scene, new Call(method, wrong, 0), want);
        }
    }

    /** The same for the second of two arguments. */
    void stillOutside(Scene scene, String method, int first, int low, int high, long want) {
        for (int wrong : outside(low, high)) {
            still(scene, new Call(method, first, wrong), want);
        }
    }

    /** Each number of the range is taken: whatever the answer is, it is no error. */
    void taken(Scene scene, String method, int low, int high) {
        for (int right = low; right <= high; right++) {
            noError(scene, new Call(method, right, 0));
        }
    }

    void taken(Scene scene, String method, int first, int low, int high) {
        for (int right = low; right <= high; right++) {
            noError(scene, new Call(method, first, right));
        }
    }

    private void noError(Scene scene, Call call) {
        long answer = call.on(scene.make());
        check.holds(scene + ": " + call + " answers the error " + answer, !Call.isError(answer));
    }

    void due(String what, long got, long want) {
        check.due(what, got, want);
    }

    void holds(String what, boolean holds) {
        check.holds(what, holds);
    }

    void end() {
        check.end();
    }
}

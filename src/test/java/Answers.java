/** Compares answers with those that are due, and looks at the whole of a KeyHeap. */
final class Answers {
    private static int compared = 0;
    private static int wrong = 0;

    private Answers() {
    }

    static void due(String call, Object got, Object want) {
        compared++;
        if (!got.equals(want)) {
            wrong++;
            System.out.println(call + " answered " + got + ", due is " + want);
        }
    }

    /**
     * All that the asking calls tell of a heap, none of which changes it. It takes 63 calls, so
     * an object stands at most eight of them.
     */
    static String stateOf(KeyHeap heap) {
        StringBuilder state = new StringBuilder();
        for (int v = 0; v < 8; v++) {
            state.append(v).append(": ").append(heap.holds(v)).append(' ').append(heap.number(v));
            state.append(' ').append(heap.linkHolds(v, 0)).append(' ').append(heap.linkHolds(v, 1));
            for (int w = v + 1; w < 8; w++) {
                state.append(heap.same(v, w) ? " =" : " /").append(w);
            }
            state.append("; ");
        }
        state.append(heap.live()).append(' ').append(heap.reached()).append(' ').append(heap.total());
        return state.toString();
    }

    static void end() {
        System.out.println(compared + " answers compared, " + wrong + " wrong");
        if (wrong != 0 || compared == 0) {
            System.exit(1);
        }
    }
}

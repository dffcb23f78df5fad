import java.util.ArrayDeque;
import java.util.ArrayList;
import java.util.Collections;
import java.util.Deque;
import java.util.IdentityHashMap;
import java.util.List;
import java.util.Set;

/**
 * Long runs of mixed calls, each answer compared with that of a model whose records are Java
 * objects. The runs come from a fixed sequence of numbers, so that they are always the same.
 */
public final class ModelTest {
    private static final int RUNS = 4000;
    private static final int CALLS = 512;
    private static final int[] WRONG_INDEXES = {-1, 8, 2, 9, Integer.MIN_VALUE, Integer.MAX_VALUE};
    private static final int[] EDGE_NUMBERS = {0, 1, -1, Integer.MIN_VALUE, Integer.MAX_VALUE};
    /** How often each call stands among 100: runs that make much, throw away much, and link much. */
    private static final int[][] MIXES = {
        {14, 5, 6, 8, 5, 14, 12, 6, 6, 8, 6, 3, 4, 1, 2},
        {22, 16, 4, 8, 3, 12, 8, 6, 4, 5, 5, 2, 2, 2, 1},
        {9, 2, 10, 4, 2, 28, 16, 4, 4, 5, 3, 3, 7, 2, 1},
    };

    private static final class Cell {
        int number;
        boolean live = true;
        final Cell[] links = new Cell[2];
    }

    /** The document's words, said again without slots, serials or marks. */
    private static final class Model {
        final Cell[] variables = new Cell[8];
        final List<Cell> made = new ArrayList<>();

        private boolean variable(int v) {
            return v >= 0 && v <= 7;
        }

        private boolean link(int k) {
            return k == 0 || k == 1;
        }

        private int fault(int v) {
            Cell cell = variables[v];
            return cell == null ? KeyHeap.NIL_FAULT : cell.live ? KeyHeap.OK : KeyHeap.DANGLING;
        }

        private int kind(Cell cell) {
            return cell == null ? KeyHeap.NIL : cell.live ? KeyHeap.LIVE : KeyHeap.DEAD;
        }

        int make(int v, int n) {
            if (!variable(v)) return KeyHeap.BAD;
            if (live() >= 6) return KeyHeap.FULL;
            Cell cell = new Cell();
            cell.number = n;
            made.add(cell);
            variables[v] = cell;
            return KeyHeap.OK;
        }

        int dispose(int v) {
            if (!variable(v)) return KeyHeap.BAD;
            int fault = fault(v);
            if (fault == KeyHeap.OK) variables[v].live = false;
            return fault;
        }

        int setNil(int v) {
            if (!variable(v)) return KeyHeap.BAD;
            variables[v] = null;
            return KeyHeap.OK;
        }

        int copy(int v, int w) {
            if (!variable(v) || !variable(w)) return KeyHeap.BAD;
            variables[v] = variables[w];
            return KeyHeap.OK;
        }

        int setNumber(int v, int n) {
            if (!variable(v)) return KeyHeap.BAD;
            int fault = fault(v);
            if (fault == KeyHeap.OK) variables[v].number = n;
            return fault;
        }

        int setLink(int v, int k, int w) {
            if (!variable(v) || !variable(w) || !link(k)) return KeyHeap.BAD;
            int fault = fault(v);
            if (fault == KeyHeap.OK) variables[v].links[k] = variables[w];
            return fault;
        }

        int follow(int v, int w, int k) {
            if (!variable(v) || !variable(w) || !link(k)) return KeyHeap.BAD;
            int fault = fault(w);
            if (fault == KeyHeap.OK) variables[v] = variables[w].links[k];
            return fault;
        }

        int holds(int v) {
            return variable(v) ? kind(variables[v]) : KeyHeap.BAD;
        }

        int number(int v) {
            return holds(v) == KeyHeap.LIVE ? variables[v].number : 0;
        }

        int linkHolds(int v, int k) {
            return holds(v) == KeyHeap.LIVE && link(k) ? kind(variables[v].links[k]) : KeyHeap.BAD;
        }

        boolean same(int v, int w) {
            if (holds(v) == KeyHeap.NIL && holds(w) == KeyHeap.NIL) return true;
            return holds(v) == KeyHeap.LIVE && holds(w) == KeyHeap.LIVE && variables[v] == variables[w];
        }

        int live() {
            return (int) made.stream().filter(cell -> cell.live).count();
        }

        int reached() {
            return reachedCells().size();
        }

        int sweep() {
            Set<Cell> reached = reachedCells();
            int before = live();
            made.forEach(cell -> cell.live = cell.live && reached.contains(cell));
            return before - live();
        }

        int total() {
            return made.stream().filter(cell -> cell.live).mapToInt(cell -> cell.number).sum();
        }

        private Set<Cell> reachedCells() {
            Set<Cell> reached = Collections.newSetFromMap(new IdentityHashMap<>());
            Deque<Cell> waiting = new ArrayDeque<>();
            for (Cell cell : variables) {
                if (cell != null) waiting.add(cell);
            }
            while (!waiting.isEmpty()) {
                Cell cell = waiting.remove();
                if (cell.live && reached.add(cell)) {
                    for (Cell next : cell.links) {
                        if (next != null) waiting.add(next);
                    }
                }
            }
            return reached;
        }
    }

    private static long seed;
    private static final int[][] answersSeen = new int[15][8];

    public static void main(String[] args) {
        for (int run = 0; run < RUNS; run++) {
            seed = run * 1000003L + 17;
            KeyHeap heap = new KeyHeap();
            Model model = new Model();
            for (int call = 0; call < CALLS; call++) {
                compareOneCall("run " + run + ", call " + call, heap, model, MIXES[run % MIXES.length]);
            }
        }
        everyAnswerWasDueSomewhere();
        Answers.end();
    }

    private static int next(int bound) {
        seed = seed * 6364136223846793005L + 1442695040888963407L;
        return (int) ((seed >>> 33) % bound);
    }

    /** Mostly right, so that runs come far; now and then wrong. */
    private static int nextIndex(int bound) {
        return next(40) == 0 ? WRONG_INDEXES[next(WRONG_INDEXES.length)] : next(bound);
    }

    private static int nextNumber() {
        return next(3) == 0 ? EDGE_NUMBERS[next(EDGE_NUMBERS.length)] : next(2000) - 1000;
    }

    private static int nextCall(int[] mix) {
        int at = next(100);
        int call = 0;
        while (at >= mix[call]) {
            at -= mix[call];
            call++;
        }
        return call;
    }

    private static void compareOneCall(String where, KeyHeap heap, Model model, int[] mix) {
        int call = nextCall(mix);
        int v = nextIndex(8);
        int w = nextIndex(8);
        int k = nextIndex(2);
        int n = nextNumber();
        int want = answer(call, model, v, w, k, n);
        String text = where + ": call kind " + call + " with v " + v + ", w " + w + ", k " + k + ", n " + n;
        Answers.due(text, answer(call, heap, v, w, k, n), want);
        if (want >= -4 && want <= 3) {
            answersSeen[call][want + 4]++;
        }
    }

    private static int answer(int call, KeyHeap heap, int v, int w, int k, int n) {
        switch (call) {
            case 0: return heap.make(v, n);
            case 1: return heap.dispose(v);
            case 2: return heap.setNil(v);
            case 3: return heap.copy(v, w);
            case 4: return heap.setNumber(v, n);
            case 5: return heap.setLink(v, k, w);
            case 6: return heap.follow(v, w, k);
            case 7: return heap.holds(v);
            case 8: return heap.number(v);
            case 9: return heap.linkHolds(v, k);
            case 10: return heap.same(v, w) ? 1 : 0;
            case 11: return heap.live();
            case 12: return heap.reached();
            case 13: return heap.sweep();
            default: return heap.total();
        }
    }

    private static int answer(int call, Model model, int v, int w, int k, int n) {
        switch (call) {
            case 0: return model.make(v, n);
            case 1: return model.dispose(v);
            case 2: return model.setNil(v);
            case 3: return model.copy(v, w);
            case 4: return model.setNumber(v, n);
            case 5: return model.setLink(v, k, w);
            case 6: return model.follow(v, w, k);
            case 7: return model.holds(v);
            case 8: return model.number(v);
            case 9: return model.linkHolds(v, k);
            case 10: return model.same(v, w) ? 1 : 0;
            case 11: return model.live();
            case 12: return model.reached();
            case 13: return model.sweep();
            default: return model.total();
        }
    }

    /** Guards the runs themselves: a mix that never comes to some answer would test nothing of it. */
    private static void everyAnswerWasDueSomewhere() {
        int[][] answers = {
            {0, -1, -2}, {0, -1, -3, -4}, {0, -1}, {0, -1}, {0, -1, -3, -4}, {0, -1, -3, -4},
            {0, -1, -3, -4}, {0, 1, 2, -1}, {0, 1, -1}, {0, 1, 2, -1}, {0, 1}, {0, 1, 2, 3},
            {0, 1, 2, 3}, {0, 1, 2, 3}, {0, 1, -1},
        };
        for (int call = 0; call < answers.length; call++) {
            for (int answer : answers[call]) {
                boolean seen = answersSeen[call][answer + 4] > 0;
                Answers.due("whether " + answer + " was due from call kind " + call, seen, true);
            }
        }
    }
}

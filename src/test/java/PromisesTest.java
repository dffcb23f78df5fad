/** The document's promises one by one: ordinary inputs, edges and wrong inputs. */
public final class PromisesTest {
    private static final int OK = KeyHeap.OK;
    private static final int BAD = KeyHeap.BAD;
    private static final int FULL = KeyHeap.FULL;
    private static final int NIL_FAULT = KeyHeap.NIL_FAULT;
    private static final int DANGLING = KeyHeap.DANGLING;
    private static final int NIL = KeyHeap.NIL;
    private static final int LIVE = KeyHeap.LIVE;
    private static final int DEAD = KeyHeap.DEAD;
    private static final int MIN = Integer.MIN_VALUE;
    private static final int MAX = Integer.MAX_VALUE;
    private static final int[] NO_VARIABLES = {-1, 8, 9, -8, 16, 32, 256, 1 << 16, MIN, MIN + 7, MAX};
    private static final int[] NO_LINKS = {-1, 2, 3, -2, 32, 256, MIN, MIN + 1, MAX};

    public static void main(String[] args) {
        promise1NewObject();
        promise1ObjectsAreApart();
        promise2Make();
        promise2MakeInEveryVariable();
        promise2MakeFull();
        promise2MakeClearsLinks();
        promise3Dispose();
        promise3DisposeThroughAnyPointer();
        promise4SetNil();
        promise5Copy();
        promise6SetNumber();
        promise7SetLink();
        promise7SetLinkFaultIsOfV();
        promise8Follow();
        promise8FollowIntoItself();
        promise9Holds();
        promise10Number();
        promise11LinkHolds();
        promise12Same();
        promise13Live();
        promise14Reached();
        promise14ReachedAlongAChain();
        promise14ReachedNotThroughTheDead();
        promise15Sweep();
        promise15SweepMakesRoom();
        promise15SweepThrowsAwayARing();
        promise16Total();
        promise17BadBeforeFull();
        exampleOfTheReadme();
        Answers.end();
    }

    private static void due(String call, Object got, Object want) {
        Answers.due(call, got, want);
    }

    /** Variable 0 is NIL, 1 is live with number 11 and links to 2 and to a dead one, 2 is live, 3 is dead. */
    private static KeyHeap mixed() {
        KeyHeap heap = new KeyHeap();
        heap.make(1, 11);
        heap.make(2, 22);
        heap.make(3, 33);
        heap.setLink(1, 0, 2);
        heap.setLink(1, 1, 3);
        heap.dispose(3);
        return heap;
    }

    private static KeyHeap full() {
        KeyHeap heap = new KeyHeap();
        for (int v = 0; v < 6; v++) {
            due("make " + v + " of six", heap.make(v, v + 1), OK);
        }
        return heap;
    }

    private static void promise1NewObject() {
        KeyHeap heap = new KeyHeap();
        for (int v = 0; v < 8; v++) {
            due("1: holds(" + v + ") of a new object", heap.holds(v), NIL);
        }
        due("1: live()", heap.live(), 0);
        due("1: reached()", heap.reached(), 0);
        due("1: total()", heap.total(), 0);
        due("1: sweep()", heap.sweep(), 0);
    }

    private static void promise1ObjectsAreApart() {
        KeyHeap old = full();
        KeyHeap heap = new KeyHeap();
        due("1: live() of another object", heap.live(), 0);
        due("1: holds(0) of another object", heap.holds(0), NIL);
        due("1: make in another object", heap.make(0, 5), OK);
        due("1: number(0) of the first object", old.number(0), 1);
    }

    private static void promise2Make() {
        KeyHeap heap = new KeyHeap();
        due("2: make(3, -7)", heap.make(3, -7), OK);
        due("2: holds(3)", heap.holds(3), LIVE);
        due("2: number(3)", heap.number(3), -7);
        due("2: linkHolds(3, 0)", heap.linkHolds(3, 0), NIL);
        due("2: linkHolds(3, 1)", heap.linkHolds(3, 1), NIL);
        heap.copy(4, 3);
        due("2: make(3, 8) over a pointer", heap.make(3, 8), OK);
        due("2: number(3) of the new record", heap.number(3), 8);
        due("2: number(4) of the old record", heap.number(4), -7);
        due("2: same(3, 4)", heap.same(3, 4), false);
        due("2: live()", heap.live(), 2);
        for (int v : NO_VARIABLES) {
            due("2: make(" + v + ", 1)", heap.make(v, 1), BAD);
        }
        due("2: live() after BAD", heap.live(), 2);
    }

    private static void promise2MakeInEveryVariable() {
        for (int v = 0; v < 8; v++) {
            KeyHeap heap = new KeyHeap();
            due("2: make(" + v + ", MIN)", heap.make(v, MIN), OK);
            for (int w = 0; w < 8; w++) {
                due("2: holds(" + w + ") after make(" + v + ")", heap.holds(w), v == w ? LIVE : NIL);
            }
            due("2: number(" + v + ")", heap.number(v), MIN);
        }
    }

    private static void promise2MakeFull() {
        for (int v = 0; v < 8; v++) {
            due("2: make(" + v + ", 9) when full", full().make(v, 9), FULL);
        }
        KeyHeap heap = full();
        heap.setNil(2);
        due("2: make when the sixth cannot be reached", heap.make(2, 9), FULL);
        heap.dispose(4);
        due("2: make after dispose", heap.make(7, 9), OK);
        due("2: make when full again", heap.make(7, 9), FULL);
        due("2: holds(4)", heap.holds(4), DEAD);
    }

    private static void promise2MakeClearsLinks() {
        KeyHeap heap = full();
        for (int v = 0; v < 6; v++) {
            heap.setLink(v, 0, 0);
            heap.setLink(v, 1, v);
        }
        for (int v = 0; v < 6; v++) {
            heap.dispose(v);
        }
        for (int v = 0; v < 6; v++) {
            heap.make(v, 0);
            due("2: linkHolds(" + v + ", 0) of a late record", heap.linkHolds(v, 0), NIL);
            due("2: linkHolds(" + v + ", 1) of a late record", heap.linkHolds(v, 1), NIL);
        }
    }

    private static void promise3Dispose() {
        KeyHeap heap = mixed();
        due("3: dispose(2)", heap.dispose(2), OK);
        due("3: holds(2), which keeps its pointer", heap.holds(2), DEAD);
        due("3: linkHolds(1, 0)", heap.linkHolds(1, 0), DEAD);
        due("3: holds(1)", heap.holds(1), LIVE);
        due("3: live()", heap.live(), 1);
        due("3: dispose(2) again", heap.dispose(2), DANGLING);
        due("3: dispose(0)", heap.dispose(0), NIL_FAULT);
        due("3: live() after faults", heap.live(), 1);
        for (int v : NO_VARIABLES) {
            due("3: dispose(" + v + ")", heap.dispose(v), BAD);
        }
        due("3: live() after BAD", heap.live(), 1);
    }

    private static void promise3DisposeThroughAnyPointer() {
        KeyHeap heap = new KeyHeap();
        heap.make(0, 1);
        heap.copy(7, 0);
        heap.setLink(0, 1, 0);
        due("3: dispose(7)", heap.dispose(7), OK);
        due("3: holds(0)", heap.holds(0), DEAD);
        due("3: holds(7)", heap.holds(7), DEAD);
        due("3: dispose(0)", heap.dispose(0), DANGLING);
    }

    private static void promise4SetNil() {
        KeyHeap heap = mixed();
        for (int v = 0; v < 8; v++) {
            due("4: setNil(" + v + ")", heap.setNil(v), OK);
            due("4: holds(" + v + ")", heap.holds(v), NIL);
            due("4: holds(2) after setNil(" + v + ")", heap.holds(2), v < 2 ? LIVE : NIL);
        }
        due("4: live(), for no record goes with a pointer", heap.live(), 2);
        for (int v : NO_VARIABLES) {
            due("4: setNil(" + v + ")", heap.setNil(v), BAD);
        }
    }

    private static void promise5Copy() {
        KeyHeap heap = mixed();
        due("5: copy(7, 1)", heap.copy(7, 1), OK);
        due("5: same(7, 1)", heap.same(7, 1), true);
        due("5: number(7)", heap.number(7), 11);
        heap.setNumber(7, 12);
        due("5: number(1), the same record", heap.number(1), 12);
        due("5: copy(7, 3) of a dead one", heap.copy(7, 3), OK);
        due("5: holds(7)", heap.holds(7), DEAD);
        due("5: copy(7, 0) of NIL", heap.copy(7, 0), OK);
        due("5: holds(7)", heap.holds(7), NIL);
        due("5: copy(1, 1)", heap.copy(1, 1), OK);
        due("5: number(1)", heap.number(1), 12);
        due("5: copy(0, 2)", heap.copy(0, 2), OK);
        due("5: holds(2) stays", heap.holds(2), LIVE);
        due("5: live()", heap.live(), 2);
        for (int v : NO_VARIABLES) {
            due("5: copy(1, " + v + ")", heap.copy(1, v), BAD);
            due("5: copy(" + v + ", 1)", heap.copy(v, 1), BAD);
        }
        due("5: number(1) after BAD", heap.number(1), 12);
    }

    private static void promise6SetNumber() {
        KeyHeap heap = mixed();
        for (int n : new int[] {0, -1, MIN, MAX, 5}) {
            due("6: setNumber(1, " + n + ")", heap.setNumber(1, n), OK);
            due("6: number(1)", heap.number(1), n);
        }
        due("6: number(2)", heap.number(2), 22);
        due("6: linkHolds(1, 0) stays", heap.linkHolds(1, 0), LIVE);
        due("6: setNumber(0, 1)", heap.setNumber(0, 1), NIL_FAULT);
        due("6: setNumber(3, 1)", heap.setNumber(3, 1), DANGLING);
        for (int v : NO_VARIABLES) {
            due("6: setNumber(" + v + ", 1)", heap.setNumber(v, 1), BAD);
        }
        due("6: total() after refusals", heap.total(), 27);
    }

    private static void promise7SetLink() {
        KeyHeap heap = mixed();
        due("7: setLink(2, 0, 1)", heap.setLink(2, 0, 1), OK);
        due("7: linkHolds(2, 0)", heap.linkHolds(2, 0), LIVE);
        due("7: linkHolds(2, 1) stays", heap.linkHolds(2, 1), NIL);
        due("7: setLink(2, 1, 3) to a dead one", heap.setLink(2, 1, 3), OK);
        due("7: linkHolds(2, 1)", heap.linkHolds(2, 1), DEAD);
        due("7: linkHolds(2, 0) stays", heap.linkHolds(2, 0), LIVE);
        due("7: setLink(2, 0, 0) to NIL", heap.setLink(2, 0, 0), OK);
        due("7: linkHolds(2, 0)", heap.linkHolds(2, 0), NIL);
        due("7: setLink(2, 1, 2) to itself", heap.setLink(2, 1, 2), OK);
        heap.follow(5, 2, 1);
        due("7: same(5, 2)", heap.same(5, 2), true);
        heap.setNil(2);
        due("7: linkHolds(5, 1) when the variable goes on", heap.linkHolds(5, 1), LIVE);
        for (int v : NO_VARIABLES) {
            due("7: setLink(" + v + ", 0, 1)", heap.setLink(v, 0, 1), BAD);
            due("7: setLink(1, 0, " + v + ")", heap.setLink(1, 0, v), BAD);
        }
        for (int k : NO_LINKS) {
            due("7: setLink(1, " + k + ", 1)", heap.setLink(1, k, 1), BAD);
        }
    }

    private static void promise7SetLinkFaultIsOfV() {
        KeyHeap heap = mixed();
        due("7: setLink(0, 0, 1)", heap.setLink(0, 0, 1), NIL_FAULT);
        due("7: setLink(0, 0, 3)", heap.setLink(0, 0, 3), NIL_FAULT);
        due("7: setLink(3, 1, 1)", heap.setLink(3, 1, 1), DANGLING);
        due("7: setLink(3, 1, 0)", heap.setLink(3, 1, 0), DANGLING);
        due("7: setLink(0, 2, 1), BAD first", heap.setLink(0, 2, 1), BAD);
        due("7: setLink(3, -1, 1), BAD first", heap.setLink(3, -1, 1), BAD);
        due("7: setLink(0, 0, 8), BAD first", heap.setLink(0, 0, 8), BAD);
        due("7: setLink(3, 0, 8), BAD first", heap.setLink(3, 0, 8), BAD);
    }

    private static void promise8Follow() {
        KeyHeap heap = mixed();
        due("8: follow(4, 1, 0)", heap.follow(4, 1, 0), OK);
        due("8: same(4, 2)", heap.same(4, 2), true);
        due("8: follow(5, 1, 1) to a dead one", heap.follow(5, 1, 1), OK);
        due("8: holds(5)", heap.holds(5), DEAD);
        due("8: follow(4, 2, 0) to NIL", heap.follow(4, 2, 0), OK);
        due("8: holds(4)", heap.holds(4), NIL);
        due("8: follow(1, 0, 0)", heap.follow(1, 0, 0), NIL_FAULT);
        due("8: follow(1, 3, 0)", heap.follow(1, 3, 0), DANGLING);
        due("8: number(1) after faults", heap.number(1), 11);
        due("8: follow(1, 0, 2), BAD first", heap.follow(1, 0, 2), BAD);
        due("8: follow(8, 0, 0), BAD first", heap.follow(8, 0, 0), BAD);
        due("8: follow(8, 3, 0), BAD first", heap.follow(8, 3, 0), BAD);
        for (int v : NO_VARIABLES) {
            due("8: follow(" + v + ", 1, 0)", heap.follow(v, 1, 0), BAD);
            due("8: follow(1, " + v + ", 0)", heap.follow(1, v, 0), BAD);
        }
        for (int k : NO_LINKS) {
            due("8: follow(1, 1, " + k + ")", heap.follow(1, 1, k), BAD);
        }
        due("8: number(1) after BAD", heap.number(1), 11);
    }

    private static void promise8FollowIntoItself() {
        KeyHeap heap = mixed();
        due("8: follow(1, 1, 0)", heap.follow(1, 1, 0), OK);
        due("8: number(1)", heap.number(1), 22);
        due("8: same(1, 2)", heap.same(1, 2), true);
        due("8: live()", heap.live(), 2);
        due("8: follow(1, 1, 1)", heap.follow(1, 1, 1), OK);
        due("8: holds(1)", heap.holds(1), NIL);
    }

    private static void promise9Holds() {
        KeyHeap heap = mixed();
        due("9: holds(0)", heap.holds(0), NIL);
        due("9: holds(1)", heap.holds(1), LIVE);
        due("9: holds(3)", heap.holds(3), DEAD);
        due("9: holds(7)", heap.holds(7), NIL);
        for (int v : NO_VARIABLES) {
            due("9: holds(" + v + ")", heap.holds(v), BAD);
        }
    }

    private static void promise10Number() {
        KeyHeap heap = mixed();
        due("10: number(1)", heap.number(1), 11);
        due("10: number(2)", heap.number(2), 22);
        due("10: number(0) of NIL", heap.number(0), 0);
        due("10: number(3) of a dead one", heap.number(3), 0);
        heap.make(4, 44);
        due("10: number(3) when a new record is there", heap.number(3), 0);
        due("10: number(0) when a new record is there", heap.number(0), 0);
        for (int v : NO_VARIABLES) {
            due("10: number(" + v + ")", heap.number(v), 0);
        }
    }

    private static void promise11LinkHolds() {
        KeyHeap heap = mixed();
        due("11: linkHolds(1, 0)", heap.linkHolds(1, 0), LIVE);
        due("11: linkHolds(1, 1)", heap.linkHolds(1, 1), DEAD);
        due("11: linkHolds(2, 0)", heap.linkHolds(2, 0), NIL);
        due("11: linkHolds(2, 1)", heap.linkHolds(2, 1), NIL);
        due("11: linkHolds(0, 0) of NIL", heap.linkHolds(0, 0), BAD);
        due("11: linkHolds(3, 1) of a dead one", heap.linkHolds(3, 1), BAD);
        heap.make(4, 44);
        due("11: linkHolds(1, 1) when a new record is there", heap.linkHolds(1, 1), DEAD);
        for (int v : NO_VARIABLES) {
            due("11: linkHolds(" + v + ", 0)", heap.linkHolds(v, 0), BAD);
        }
        for (int k : NO_LINKS) {
            due("11: linkHolds(1, " + k + ")", heap.linkHolds(1, k), BAD);
        }
    }

    private static void promise12Same() {
        KeyHeap heap = mixed();
        heap.copy(4, 1);
        heap.copy(5, 3);
        heap.make(6, 11);
        due("12: same(1, 4)", heap.same(1, 4), true);
        due("12: same(4, 1)", heap.same(4, 1), true);
        due("12: same(1, 1)", heap.same(1, 1), true);
        due("12: same(1, 2)", heap.same(1, 2), false);
        due("12: same(1, 6), alike but two", heap.same(1, 6), false);
        due("12: same(0, 7), both NIL", heap.same(0, 7), true);
        due("12: same(0, 0)", heap.same(0, 0), true);
        due("12: same(0, 1)", heap.same(0, 1), false);
        due("12: same(1, 0)", heap.same(1, 0), false);
        due("12: same(3, 5), both dead", heap.same(3, 5), false);
        due("12: same(3, 3), dead", heap.same(3, 3), false);
        due("12: same(0, 3)", heap.same(0, 3), false);
        due("12: same(3, 0)", heap.same(3, 0), false);
        due("12: same(3, 1)", heap.same(3, 1), false);
        for (int v : NO_VARIABLES) {
            due("12: same(0, " + v + ")", heap.same(0, v), false);
            due("12: same(" + v + ", 0)", heap.same(v, 0), false);
            due("12: same(" + v + ", " + v + ")", heap.same(v, v), false);
        }
    }

    private static void promise13Live() {
        KeyHeap heap = new KeyHeap();
        for (int n = 1; n <= 6; n++) {
            heap.make(0, 0);
            due("13: live() with " + n + " made in one variable", heap.live(), n);
        }
        heap.make(1, 0);
        due("13: live() after FULL", heap.live(), 6);
        heap.dispose(0);
        due("13: live() after dispose", heap.live(), 5);
        heap.dispose(0);
        due("13: live() after DANGLING", heap.live(), 5);
    }

    private static void promise14Reached() {
        KeyHeap heap = new KeyHeap();
        heap.make(7, 0);
        due("14: reached() of one", heap.reached(), 1);
        heap.copy(0, 7);
        due("14: reached() of one held twice", heap.reached(), 1);
        heap.setLink(7, 0, 7);
        heap.setLink(7, 1, 7);
        due("14: reached() of a record that links to itself", heap.reached(), 1);
        heap.make(3, 0);
        due("14: reached() of two", heap.reached(), 2);
        heap.setNil(3);
        due("14: reached() when one is lost", heap.reached(), 1);
        due("14: live(), for reached throws nothing away", heap.live(), 2);
    }

    /** A chain of six, made so that its steps go both up and down in the order of making. */
    private static void promise14ReachedAlongAChain() {
        int[][] orders = {{0, 1, 2, 3, 4, 5}, {5, 4, 3, 2, 1, 0}, {3, 0, 5, 1, 4, 2}};
        for (int[] order : orders) {
            for (int k = 0; k < 2; k++) {
                KeyHeap heap = full();
                for (int i = 0; i + 1 < 6; i++) {
                    heap.setLink(order[i], k, order[i + 1]);
                }
                for (int i = 1; i < 6; i++) {
                    heap.setNil(order[i]);
                }
                due("14: reached() along a chain of link " + k, heap.reached(), 6);
                due("15: sweep() of a chain", heap.sweep(), 0);
                heap.follow(order[0], order[0], k);
                due("14: reached() from the second on", heap.reached(), 5);
                due("15: sweep() of the first", heap.sweep(), 1);
                due("13: live()", heap.live(), 5);
            }
        }
    }

    private static void promise14ReachedNotThroughTheDead() {
        KeyHeap heap = new KeyHeap();
        heap.make(0, 1);
        heap.make(1, 2);
        heap.make(2, 3);
        heap.setLink(0, 0, 1);
        heap.setLink(1, 1, 2);
        heap.setNil(2);
        due("14: reached() through live ones", heap.reached(), 3);
        heap.dispose(1);
        due("14: reached() past a dead one", heap.reached(), 1);
        heap.make(3, 4);
        heap.setNil(3);
        due("14: reached() when a late record was lost", heap.reached(), 1);
        due("15: sweep()", heap.sweep(), 2);
    }

    private static void promise15Sweep() {
        KeyHeap heap = mixed();
        due("15: sweep() when all are reached", heap.sweep(), 0);
        heap.setNil(2);
        due("15: sweep() when a link still reaches", heap.sweep(), 0);
        due("15: linkHolds(1, 0)", heap.linkHolds(1, 0), LIVE);
        heap.make(4, 44);
        heap.make(4, 55);
        due("15: sweep() of one", heap.sweep(), 1);
        due("15: live()", heap.live(), 3);
        due("15: number(4)", heap.number(4), 55);
        due("15: total()", heap.total(), 88);
        due("15: sweep() again", heap.sweep(), 0);
        heap.setNil(1);
        heap.setNil(4);
        due("15: sweep() of all", heap.sweep(), 3);
        due("15: live()", heap.live(), 0);
        due("15: holds(3) stays", heap.holds(3), DEAD);
    }

    private static void promise15SweepMakesRoom() {
        KeyHeap heap = full();
        for (int v = 0; v < 6; v++) {
            heap.setNil(v);
        }
        due("15: make before sweep", heap.make(0, 1), FULL);
        due("15: sweep() of six", heap.sweep(), 6);
        for (int v = 0; v < 6; v++) {
            due("15: make(" + v + ", 1) after sweep", heap.make(v, 1), OK);
        }
        due("15: make when full again", heap.make(6, 1), FULL);
    }

    private static void promise15SweepThrowsAwayARing() {
        KeyHeap heap = full();
        heap.setLink(0, 0, 1);
        heap.setLink(1, 0, 2);
        heap.setLink(2, 0, 0);
        heap.setLink(2, 1, 5);
        heap.setNil(0);
        heap.setNil(1);
        due("15: sweep() of a ring that is held", heap.sweep(), 0);
        heap.setNil(2);
        due("15: sweep() of a ring", heap.sweep(), 3);
        due("15: number(5), which the ring linked to", heap.number(5), 6);
        due("15: total()", heap.total(), 15);
    }

    private static void promise16Total() {
        KeyHeap heap = new KeyHeap();
        heap.make(0, MAX);
        due("16: total() of one", heap.total(), MAX);
        heap.make(1, MAX);
        due("16: total() wraps", heap.total(), -2);
        heap.make(2, 3);
        due("16: total() wraps back", heap.total(), 1);
        heap.setNil(2);
        due("16: total() counts what is not reached", heap.total(), 1);
        heap.dispose(0);
        due("16: total() wraps to MIN", heap.total(), MIN + 2);
        heap.sweep();
        due("16: total() after sweep", heap.total(), MAX);
        heap.dispose(1);
        due("16: total() of none", heap.total(), 0);
        heap.make(3, MIN);
        heap.make(4, -1);
        due("16: total() wraps below", heap.total(), MAX);
    }

    private static void promise17BadBeforeFull() {
        KeyHeap heap = full();
        for (int v : NO_VARIABLES) {
            due("17: make(" + v + ", 1) when full", heap.make(v, 1), BAD);
        }
        due("17: make(7, 1) when full", heap.make(7, 1), FULL);
    }

    private static void exampleOfTheReadme() {
        KeyHeap heap = new KeyHeap();
        due("README: make(0, 10)", heap.make(0, 10), OK);
        due("README: make(1, 20)", heap.make(1, 20), OK);
        due("README: setLink(0, 1, 1)", heap.setLink(0, 1, 1), OK);
        due("README: setNil(1)", heap.setNil(1), OK);
        due("README: follow(2, 0, 1)", heap.follow(2, 0, 1), OK);
        due("README: number(2)", heap.number(2), 20);
        due("README: dispose(2)", heap.dispose(2), OK);
        due("README: holds(2)", heap.holds(2), DEAD);
        due("README: linkHolds(0, 1)", heap.linkHolds(0, 1), DEAD);
        due("README: setNumber(2, 5)", heap.setNumber(2, 5), DANGLING);
        due("README: setNumber(3, 5)", heap.setNumber(3, 5), NIL_FAULT);
        due("README: setNil(0)", heap.setNil(0), OK);
        due("README: live()", heap.live(), 1);
        due("README: reached()", heap.reached(), 0);
        due("README: sweep()", heap.sweep(), 1);
        due("README: live() at the end", heap.live(), 0);
    }
}

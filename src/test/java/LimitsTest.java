import java.util.function.ToIntFunction;

/** The bounds that 'What it is' and 'Terms' name, each sentence with a test of its own. */
public final class LimitsTest {
    private static final int OK = KeyHeap.OK;
    private static final int BAD = KeyHeap.BAD;
    private static final int FULL = KeyHeap.FULL;
    private static final int DANGLING = KeyHeap.DANGLING;
    private static final int NIL = KeyHeap.NIL;
    private static final int LIVE = KeyHeap.LIVE;
    private static final int DEAD = KeyHeap.DEAD;
    private static final int MIN = Integer.MIN_VALUE;
    private static final int MAX = Integer.MAX_VALUE;

    public static void main(String[] args) {
        Answers.sentence("What it is: at most 512 calls after it has been made", LimitsTest::everyCallAsThe512th);
        Answers.sentence("What it is: what later calls answer is free (but none may throw)", LimitsTest::laterCallsEnd);
        Answers.sentence("Terms: variables 0 .. 7", LimitsTest::everyCallTakesEveryVariable);
        Answers.sentence("Terms: each of which holds a pointer", LimitsTest::everyVariableHoldsItsOwnPointer);
        Answers.sentence("Terms: A POINTER is NIL or points to a RECORD", LimitsTest::nilIsNoRecord);
        Answers.sentence("Terms: A record has a number (an int)", LimitsTest::everyRecordHasItsOwnNumber);
        Answers.sentence("Terms: two links 0 and 1, which hold pointers too", LimitsTest::everyRecordHasTwoLinks);
        Answers.sentence("Terms: A record that was thrown away stays the one its pointers point to for ever",
                LimitsTest::pointersToTheDeadStay);
        Answers.sentence("Terms: no record made later is the same", LimitsTest::noLaterRecordIsTheSame);
        Answers.sentence("Terms: no record made later is the same (nor are two late ones)",
                LimitsTest::lateRecordsAreApart);
        Answers.sentence("Terms: Records that are there (made and not thrown away) are called LIVE",
                LimitsTest::liveFromMakeToThrowingAway);
        Answers.sentence("Terms: At most six records can be live at a time", LimitsTest::sixAndNoMore);
        Answers.end();
    }

    private static void due(String call, Object got, Object want) {
        Answers.due(call, got, want);
    }

    /**
     * 511 calls, of which 408 make a record. Then variable 0 and link 0 of variable
     * 1's record point to the first of all, which is dead; 1 and 2 are live, with 2 and 7 as
     * numbers; one more, with number 7, is lost.
     */
    private static KeyHeap after511Calls() {
        KeyHeap heap = new KeyHeap();
        due("call 1", heap.make(0, 1), OK);
        due("call 2", heap.make(1, 2), OK);
        due("call 3", heap.setLink(1, 0, 0), OK);
        due("call 4", heap.dispose(0), OK);
        due("call 5", heap.make(2, 7), OK);
        for (int call = 6; call <= 511; call++) {
            if (call % 5 == 0) {
                due("call " + call + ", sweep()", heap.sweep(), 4);
            } else {
                due("call " + call + ", make(2, 7)", heap.make(2, 7), OK);
            }
        }
        return heap;
    }

    private static void lastCall(String call, ToIntFunction<KeyHeap> act, int want) {
        due("call 512, " + call, act.applyAsInt(after511Calls()), want);
    }

    private static void everyCallAsThe512th() {
        lastCall("make(0, 5)", h -> h.make(0, 5), OK);
        lastCall("make(8, 5)", h -> h.make(8, 5), BAD);
        lastCall("dispose(0)", h -> h.dispose(0), DANGLING);
        lastCall("dispose(1)", h -> h.dispose(1), OK);
        lastCall("setNil(0)", h -> h.setNil(0), OK);
        lastCall("copy(3, 0)", h -> h.copy(3, 0), OK);
        lastCall("setNumber(0, 5)", h -> h.setNumber(0, 5), DANGLING);
        lastCall("setNumber(2, 5)", h -> h.setNumber(2, 5), OK);
        lastCall("setLink(0, 0, 2)", h -> h.setLink(0, 0, 2), DANGLING);
        lastCall("setLink(2, 0, 2)", h -> h.setLink(2, 0, 2), OK);
        lastCall("follow(3, 0, 0)", h -> h.follow(3, 0, 0), DANGLING);
        lastCall("follow(3, 1, 0)", h -> h.follow(3, 1, 0), OK);
        lastCall("holds(0)", h -> h.holds(0), DEAD);
        lastCall("holds(2)", h -> h.holds(2), LIVE);
        lastCall("holds(3)", h -> h.holds(3), NIL);
        lastCall("number(1)", h -> h.number(1), 2);
        lastCall("linkHolds(1, 0)", h -> h.linkHolds(1, 0), DEAD);
        lastCall("same(0, 2)", h -> h.same(0, 2) ? 1 : 0, 0);
        lastCall("same(2, 2)", h -> h.same(2, 2) ? 1 : 0, 1);
        lastCall("live()", KeyHeap::live, 3);
        lastCall("reached()", KeyHeap::reached, 2);
        lastCall("sweep()", KeyHeap::sweep, 1);
        lastCall("total()", KeyHeap::total, 16);
    }

    /** The language's rule 7 lets no call throw, in any state. */
    private static void laterCallsEnd() {
        KeyHeap heap = new KeyHeap();
        for (int i = 0; i < 20000; i++) {
            heap.make(i & 7, i);
            heap.setLink(i & 7, i & 1, i * 5 & 7);
            heap.follow(i * 3 & 7, i & 7, i & 1);
            heap.dispose(i * 7 & 7);
            heap.sweep();
            heap.reached();
        }
        due("whether calls past the 512th have ended", true, true);
    }

    /** One record that all eight variables point to, with links to itself. */
    private static KeyHeap heldByAll() {
        KeyHeap heap = new KeyHeap();
        heap.make(0, 5);
        heap.setLink(0, 0, 0);
        heap.setLink(0, 1, 0);
        for (int v = 1; v < 8; v++) {
            heap.copy(v, 0);
        }
        return heap;
    }

    private static void everyCallTakesEveryVariable() {
        for (int v = 0; v < 8; v++) {
            due("make(" + v + ", 1)", heldByAll().make(v, 1), OK);
            due("dispose(" + v + ")", heldByAll().dispose(v), OK);
            due("setNil(" + v + ")", heldByAll().setNil(v), OK);
            due("setNumber(" + v + ", 1)", heldByAll().setNumber(v, 1), OK);
            due("holds(" + v + ")", heldByAll().holds(v), LIVE);
            due("number(" + v + ")", heldByAll().number(v), 5);
            due("linkHolds(" + v + ", 0)", heldByAll().linkHolds(v, 0), LIVE);
            due("linkHolds(" + v + ", 1)", heldByAll().linkHolds(v, 1), LIVE);
            for (int w = 0; w < 8; w++) {
                due("copy(" + v + ", " + w + ")", heldByAll().copy(v, w), OK);
                due("same(" + v + ", " + w + ")", heldByAll().same(v, w), true);
                for (int k = 0; k < 2; k++) {
                    due("setLink(" + v + ", " + k + ", " + w + ")", heldByAll().setLink(v, k, w), OK);
                    due("follow(" + v + ", " + w + ", " + k + ")", heldByAll().follow(v, w, k), OK);
                }
            }
        }
    }

    /** Eight variables over two records and NIL: one changes, the other seven stay. */
    private static void everyVariableHoldsItsOwnPointer() {
        for (int changed = 0; changed < 8; changed++) {
            KeyHeap heap = heldByAll();
            heap.make(changed, 6);
            for (int v = 0; v < 8; v++) {
                due("number(" + v + ") after make(" + changed + ", 6)", heap.number(v), v == changed ? 6 : 5);
            }
            heap.setNil(changed);
            for (int v = 0; v < 8; v++) {
                due("holds(" + v + ") after setNil(" + changed + ")", heap.holds(v), v == changed ? NIL : LIVE);
            }
        }
    }

    /** NIL points to none of the six places that a record may have, free or taken. */
    private static void nilIsNoRecord() {
        for (Situation situation : Situation.ALL) {
            for (int v : situation.variables('N')) {
                KeyHeap heap = situation.heap();
                due(situation.name + ": holds(" + v + ")", heap.holds(v), NIL);
                due(situation.name + ": number(" + v + ")", heap.number(v), 0);
                due(situation.name + ": dispose(" + v + ")", heap.dispose(v), KeyHeap.NIL_FAULT);
                due(situation.name + ": live()", heap.live(), situation.live);
            }
        }
    }

    private static void everyRecordHasItsOwnNumber() {
        int[] numbers = {MIN, MIN + 1, -1, 0, MAX - 1, MAX};
        KeyHeap heap = new KeyHeap();
        for (int v = 0; v < 6; v++) {
            heap.make(v, numbers[v]);
        }
        for (int v = 0; v < 6; v++) {
            due("number(" + v + ") as made", heap.number(v), numbers[v]);
        }
        for (int v = 0; v < 6; v++) {
            heap.setNumber(v, numbers[5 - v]);
        }
        for (int v = 0; v < 6; v++) {
            due("number(" + v + ") as set", heap.number(v), numbers[5 - v]);
        }
    }

    /** All twelve links there can be: link 0 goes to the next record, link 1 to the one after it. */
    private static void everyRecordHasTwoLinks() {
        KeyHeap heap = sixMade();
        for (int v = 0; v < 6; v++) {
            heap.setLink(v, 0, (v + 1) % 6);
            heap.setLink(v, 1, (v + 2) % 6);
        }
        for (int v = 0; v < 6; v++) {
            for (int k = 0; k < 2; k++) {
                heap.follow(7, v, k);
                due("whether link " + k + " of " + v + " is its own", heap.same(7, (v + 1 + k) % 6), true);
            }
        }
        heap.setLink(3, 0, 6);
        for (int v = 0; v < 6; v++) {
            due("linkHolds(" + v + ", 0) when that of 3 is NIL", heap.linkHolds(v, 0), v == 3 ? NIL : LIVE);
            due("linkHolds(" + v + ", 1) when link 0 of 3 is NIL", heap.linkHolds(v, 1), LIVE);
        }
    }

    private static KeyHeap sixMade() {
        KeyHeap heap = new KeyHeap();
        for (int v = 0; v < 6; v++) {
            heap.make(v, v + 1);
        }
        return heap;
    }

    /** Each of six records dies in turn; 80 others are made in its stead and die, by hand or by sweep. */
    private static void pointersToTheDeadStay() {
        for (int dead = 0; dead < 6; dead++) {
            KeyHeap heap = sixMade();
            int keeper = (dead + 1) % 6;
            heap.setLink(keeper, 0, dead);
            heap.copy(6, dead);
            heap.dispose(dead);
            for (int i = 0; i < 80; i++) {
                due("make(7, 9) number " + i, heap.make(7, 9), OK);
                due("holds(" + dead + ") beside record " + i, heap.holds(dead), DEAD);
                due("linkHolds(" + keeper + ", 0) beside record " + i, heap.linkHolds(keeper, 0), DEAD);
                if (i % 2 == 0) {
                    heap.dispose(7);
                } else {
                    heap.setNil(7);
                    heap.sweep();
                }
            }
            due("holds(6)", heap.holds(6), DEAD);
            due("follow(7, " + keeper + ", 0)", heap.follow(7, keeper, 0), OK);
            due("holds(7)", heap.holds(7), DEAD);
        }
    }

    /** The old pointer neither reads, changes nor throws away a record that has come in its place. */
    private static void noLaterRecordIsTheSame() {
        for (int dead = 0; dead < 6; dead++) {
            KeyHeap heap = sixMade();
            heap.dispose(dead);
            for (int i = 0; i < 40; i++) {
                heap.make(7, 100 + i);
                due("same(" + dead + ", 7) with record " + i, heap.same(dead, 7), false);
                due("number(" + dead + ") with record " + i, heap.number(dead), 0);
                due("setNumber(" + dead + ", 1) with record " + i, heap.setNumber(dead, 1), DANGLING);
                due("setLink(" + dead + ", 0, 7) with record " + i, heap.setLink(dead, 0, 7), DANGLING);
                due("dispose(" + dead + ") with record " + i, heap.dispose(dead), DANGLING);
                due("number(7) with record " + i, heap.number(7), 100 + i);
                due("linkHolds(7, 0) with record " + i, heap.linkHolds(7, 0), NIL);
                due("live() with record " + i, heap.live(), 6);
                heap.dispose(7);
            }
        }
    }

    private static void lateRecordsAreApart() {
        KeyHeap heap = new KeyHeap();
        for (int i = 0; i < 250; i++) {
            heap.make(i & 1, i);
            heap.dispose(i & 1);
        }
        heap.make(2, 7);
        heap.make(3, 7);
        due("same(2, 3) of late records", heap.same(2, 3), false);
        heap.setNumber(2, 8);
        due("number(3) after setNumber(2, 8)", heap.number(3), 7);
        heap.dispose(2);
        due("holds(3) after dispose(2)", heap.holds(3), LIVE);
        due("number(3) after dispose(2)", heap.number(3), 7);
        due("holds(2) after dispose(2)", heap.holds(2), DEAD);
    }

    private static void liveFromMakeToThrowingAway() {
        KeyHeap heap = new KeyHeap();
        heap.make(0, 1);
        heap.copy(1, 0);
        heap.make(2, 2);
        heap.setLink(2, 1, 0);
        due("holds(0) once made", heap.holds(0), LIVE);
        heap.setNil(0);
        heap.setNil(1);
        due("live() when no variable holds it", heap.live(), 2);
        due("linkHolds(2, 1)", heap.linkHolds(2, 1), LIVE);
        heap.setLink(2, 1, 0);
        due("live() when nothing points to it", heap.live(), 2);
        due("sweep()", heap.sweep(), 1);
        due("live() when it was swept", heap.live(), 1);
        heap.dispose(2);
        due("holds(2) when it was thrown away", heap.holds(2), DEAD);
        due("live() when all were thrown away", heap.live(), 0);
    }

    /** With one variable for all, with one for each, and after each way of making room. */
    private static void sixAndNoMore() {
        KeyHeap heap = new KeyHeap();
        for (int n = 1; n <= 6; n++) {
            due("make(0, 1) number " + n, heap.make(0, 1), OK);
        }
        due("make(0, 1) number 7", heap.make(0, 1), FULL);
        due("dispose(0)", heap.dispose(0), OK);
        due("make(0, 1) when one was thrown away", heap.make(0, 1), OK);
        due("make(0, 1) when six are live again", heap.make(0, 1), FULL);
        due("sweep()", heap.sweep(), 5);
        for (int v = 1; v < 6; v++) {
            due("make(" + v + ", 1) after sweep", heap.make(v, 1), OK);
        }
        due("make(6, 1) when six are live once more", heap.make(6, 1), FULL);
        due("live()", heap.live(), 6);
        due("setNil(0), which makes no room", heap.setNil(0), OK);
        due("make(0, 1) when one is lost", heap.make(0, 1), FULL);
    }
}

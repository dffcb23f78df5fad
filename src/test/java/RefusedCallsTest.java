import java.util.ArrayList;
import java.util.List;

/**
 * Each sentence that has a call refused: what the call answers, in every situation and for every
 * argument that can be wrong, and that it changes nothing.
 */
public final class RefusedCallsTest {
    private static final int BAD = KeyHeap.BAD;
    private static final int FULL = KeyHeap.FULL;
    private static final int NIL_FAULT = KeyHeap.NIL_FAULT;
    private static final int DANGLING = KeyHeap.DANGLING;
    private static final int MIN = Integer.MIN_VALUE;
    private static final int MAX = Integer.MAX_VALUE;
    /** The nearest outside 0 .. 7, and those that come to 0 .. 7 when bits or a sign are dropped. */
    private static final int[] NO_VARIABLES = {-1, 8, -7, -8, 15, 256, 1 << 16, MIN, MIN + 7, MAX};
    private static final int[] NO_LINKS = {-1, 2, -2, 3, 256, MIN, MIN + 1, MAX};
    private static final List<int[]> WRONG_PAIRS = wrongPairs();
    private static final List<int[]> RIGHT_PAIRS = rightPairs();

    public static void main(String[] args) {
        terms();
        makeAndDispose();
        setNilAndCopy();
        fieldsAndLinks();
        askingCalls();
        Answers.end();
    }

    private static void terms() {
        Answers.sentence("Terms: refused with NIL_FAULT when the variable holds NIL; it changes nothing",
                RefusedCallsTest::everyCallThroughNil);
        Answers.sentence("Terms: with DANGLING when it points to a record that was thrown away; it changes nothing",
                RefusedCallsTest::everyCallThroughTheDead);
    }

    private static void makeAndDispose() {
        Answers.sentence("2: BAD when v is not 0 .. 7", RefusedCallsTest::makeBad);
        Answers.sentence("2: FULL when six records are live", RefusedCallsTest::makeFull);
        Answers.sentence("2: A refused call changes nothing", RefusedCallsTest::refusedMakeChangesNothing);
        Answers.sentence("3: BAD when v is not 0 .. 7", RefusedCallsTest::disposeBad);
        Answers.sentence("3: NIL_FAULT", RefusedCallsTest::disposeNil);
        Answers.sentence("3: DANGLING", RefusedCallsTest::disposeDangling);
        Answers.sentence("17: make: BAD is tested before FULL", RefusedCallsTest::makeBadBeforeFull);
    }

    private static void setNilAndCopy() {
        Answers.sentence("4: BAD when v is not 0 .. 7", RefusedCallsTest::setNilBad);
        Answers.sentence("5: BAD when v or w is not 0 .. 7", RefusedCallsTest::copyBad);
    }

    private static void fieldsAndLinks() {
        Answers.sentence("6: BAD when v is not 0 .. 7", RefusedCallsTest::setNumberBad);
        Answers.sentence("6: NIL_FAULT", RefusedCallsTest::setNumberNil);
        Answers.sentence("6: DANGLING", RefusedCallsTest::setNumberDangling);
        Answers.sentence("7: BAD when v or w is not 0 .. 7", RefusedCallsTest::setLinkBadVariable);
        Answers.sentence("7: BAD when k is not 0 or 1", RefusedCallsTest::setLinkBadLink);
        Answers.sentence("7: NIL_FAULT for v", RefusedCallsTest::setLinkNil);
        Answers.sentence("7: DANGLING for v", RefusedCallsTest::setLinkDangling);
        Answers.sentence("8: BAD when v or w is not 0 .. 7", RefusedCallsTest::followBadVariable);
        Answers.sentence("8: BAD when k is not 0 or 1", RefusedCallsTest::followBadLink);
        Answers.sentence("8: NIL_FAULT for w", RefusedCallsTest::followNil);
        Answers.sentence("8: DANGLING for w", RefusedCallsTest::followDangling);
    }

    private static void askingCalls() {
        Answers.sentence("9: BAD when v is not 0 .. 7", RefusedCallsTest::holdsBad);
        Answers.sentence("10: 0 also when v is not 0 .. 7", RefusedCallsTest::numberOfNoVariable);
        Answers.sentence("11: BAD when v is not 0 .. 7", RefusedCallsTest::linkHoldsBadVariable);
        Answers.sentence("11: BAD when k is not 0 or 1", RefusedCallsTest::linkHoldsBadLink);
        Answers.sentence("11: BAD when holds(v) is not LIVE", RefusedCallsTest::linkHoldsOfNoLiveRecord);
        Answers.sentence("12: False when one of them is not 0 .. 7", RefusedCallsTest::sameOfNoVariable);
    }

    /** All pairs of variables of which the first, the second or each is wrong. */
    private static List<int[]> wrongPairs() {
        List<int[]> pairs = new ArrayList<>();
        for (int wrong : NO_VARIABLES) {
            for (int right = 0; right < 8; right++) {
                pairs.add(new int[] {wrong, right});
                pairs.add(new int[] {right, wrong});
            }
            pairs.add(new int[] {wrong, wrong});
        }
        return pairs;
    }

    private static List<int[]> rightPairs() {
        List<int[]> pairs = new ArrayList<>();
        for (int v = 0; v < 8; v++) {
            for (int w = 0; w < 8; w++) {
                pairs.add(new int[] {v, w});
            }
        }
        return pairs;
    }

    private static void everyCallThroughNil() {
        everyCallThrough('N', NIL_FAULT);
    }

    private static void everyCallThroughTheDead() {
        everyCallThrough('D', DANGLING);
    }

    private static void everyCallThrough(char kind, int fault) {
        for (Situation situation : Situation.ALL) {
            for (int v : situation.variables(kind)) {
                situation.changesNothing("dispose(" + v + ")", h -> h.dispose(v), fault);
                situation.changesNothing("setNumber(" + v + ", 5)", h -> h.setNumber(v, 5), fault);
                for (int k = 0; k < 2; k++) {
                    setLinkFault(situation, v, k, 1, fault);
                    followFault(situation, 1, v, k, fault);
                }
            }
        }
    }

    private static void makeBad() {
        for (Situation situation : Situation.ALL) {
            for (int v : NO_VARIABLES) {
                situation.changesNothing("make(" + v + ", 5)", h -> h.make(v, 5), BAD);
            }
        }
    }

    private static void makeFull() {
        for (Situation situation : List.of(Situation.FULL, Situation.FULL_AND_LOST)) {
            for (int v = 0; v < 8; v++) {
                int variable = v;
                situation.changesNothing("make(" + v + ", 5)", h -> h.make(variable, 5), FULL);
            }
        }
    }

    /** Also when it is refused again and again, which a count of its own would not stand. */
    private static void refusedMakeChangesNothing() {
        for (Situation situation : Situation.ALL) {
            situation.leftAsItWas("make(-1, MAX) and make(8, MIN) eight times", h -> {
                int last = 0;
                for (int i = 0; i < 8; i++) {
                    last = h.make(-1, MAX) + h.make(8, MIN);
                }
                return last;
            });
        }
        for (Situation situation : List.of(Situation.FULL, Situation.FULL_AND_LOST)) {
            situation.leftAsItWas("make(v, MAX) for every v when full", h -> {
                int last = 0;
                for (int v = 0; v < 8; v++) {
                    last = h.make(v, MAX);
                }
                return last;
            });
        }
    }

    private static void makeBadBeforeFull() {
        for (Situation situation : List.of(Situation.FULL, Situation.FULL_AND_LOST)) {
            for (int v : NO_VARIABLES) {
                situation.changesNothing("make(" + v + ", 5) when full", h -> h.make(v, 5), BAD);
            }
        }
    }

    private static void disposeBad() {
        for (Situation situation : Situation.ALL) {
            for (int v : NO_VARIABLES) {
                situation.changesNothing("dispose(" + v + ")", h -> h.dispose(v), BAD);
            }
        }
    }

    private static void disposeNil() {
        disposeFault('N', NIL_FAULT);
    }

    private static void disposeDangling() {
        disposeFault('D', DANGLING);
    }

    private static void disposeFault(char kind, int fault) {
        for (Situation situation : Situation.ALL) {
            for (int v : situation.variables(kind)) {
                situation.changesNothing("dispose(" + v + ")", h -> h.dispose(v), fault);
            }
        }
    }

    private static void setNilBad() {
        for (Situation situation : Situation.ALL) {
            for (int v : NO_VARIABLES) {
                situation.changesNothing("setNil(" + v + ")", h -> h.setNil(v), BAD);
            }
        }
    }

    private static void copyBad() {
        for (Situation situation : Situation.ALL) {
            for (int[] pair : WRONG_PAIRS) {
                int v = pair[0];
                int w = pair[1];
                situation.changesNothing("copy(" + v + ", " + w + ")", h -> h.copy(v, w), BAD);
            }
        }
    }

    private static void setNumberBad() {
        for (Situation situation : Situation.ALL) {
            for (int v : NO_VARIABLES) {
                situation.changesNothing("setNumber(" + v + ", 5)", h -> h.setNumber(v, 5), BAD);
            }
        }
    }

    private static void setNumberNil() {
        setNumberFault('N', NIL_FAULT);
    }

    private static void setNumberDangling() {
        setNumberFault('D', DANGLING);
    }

    private static void setNumberFault(char kind, int fault) {
        for (Situation situation : Situation.ALL) {
            for (int v : situation.variables(kind)) {
                for (int n : new int[] {0, -1, MIN, MAX}) {
                    situation.changesNothing("setNumber(" + v + ", " + n + ")", h -> h.setNumber(v, n), fault);
                }
            }
        }
    }

    /** Also when v holds NIL or points to a dead record: promise 7 names BAD first. */
    private static void setLinkBadVariable() {
        for (Situation situation : Situation.ALL) {
            for (int[] pair : WRONG_PAIRS) {
                for (int k = 0; k < 2; k++) {
                    setLinkFault(situation, pair[0], k, pair[1], BAD);
                }
            }
        }
    }

    private static void setLinkBadLink() {
        for (Situation situation : Situation.ALL) {
            for (int[] pair : RIGHT_PAIRS) {
                for (int k : NO_LINKS) {
                    setLinkFault(situation, pair[0], k, pair[1], BAD);
                }
            }
        }
    }

    private static void setLinkNil() {
        setLinkThrough('N', NIL_FAULT);
    }

    private static void setLinkDangling() {
        setLinkThrough('D', DANGLING);
    }

    /** Whatever w holds, the fault is that of v. */
    private static void setLinkThrough(char kind, int fault) {
        for (Situation situation : Situation.ALL) {
            for (int v : situation.variables(kind)) {
                for (int w = 0; w < 8; w++) {
                    setLinkFault(situation, v, 0, w, fault);
                    setLinkFault(situation, v, 1, w, fault);
                }
            }
        }
    }

    private static void setLinkFault(Situation situation, int v, int k, int w, int fault) {
        situation.changesNothing("setLink(" + v + ", " + k + ", " + w + ")", h -> h.setLink(v, k, w), fault);
    }

    /** Also when w holds NIL or points to a dead record: promise 8 names BAD first. */
    private static void followBadVariable() {
        for (Situation situation : Situation.ALL) {
            for (int[] pair : WRONG_PAIRS) {
                for (int k = 0; k < 2; k++) {
                    followFault(situation, pair[0], pair[1], k, BAD);
                }
            }
        }
    }

    private static void followBadLink() {
        for (Situation situation : Situation.ALL) {
            for (int[] pair : RIGHT_PAIRS) {
                for (int k : NO_LINKS) {
                    followFault(situation, pair[0], pair[1], k, BAD);
                }
            }
        }
    }

    private static void followNil() {
        followThrough('N', NIL_FAULT);
    }

    private static void followDangling() {
        followThrough('D', DANGLING);
    }

    /** Whatever v holds, the fault is that of w. */
    private static void followThrough(char kind, int fault) {
        for (Situation situation : Situation.ALL) {
            for (int w : situation.variables(kind)) {
                for (int v = 0; v < 8; v++) {
                    followFault(situation, v, w, 0, fault);
                    followFault(situation, v, w, 1, fault);
                }
            }
        }
    }

    private static void followFault(Situation situation, int v, int w, int k, int fault) {
        situation.changesNothing("follow(" + v + ", " + w + ", " + k + ")", h -> h.follow(v, w, k), fault);
    }

    private static void holdsBad() {
        for (Situation situation : Situation.ALL) {
            for (int v : NO_VARIABLES) {
                situation.changesNothing("holds(" + v + ")", h -> h.holds(v), BAD);
            }
        }
    }

    private static void numberOfNoVariable() {
        for (Situation situation : Situation.ALL) {
            for (int v : NO_VARIABLES) {
                situation.changesNothing("number(" + v + ")", h -> h.number(v), 0);
            }
        }
    }

    private static void linkHoldsBadVariable() {
        for (Situation situation : Situation.ALL) {
            for (int v : NO_VARIABLES) {
                linkHoldsBad(situation, v, 0);
                linkHoldsBad(situation, v, 1);
            }
        }
    }

    private static void linkHoldsBadLink() {
        for (Situation situation : Situation.ALL) {
            for (int v = 0; v < 8; v++) {
                for (int k : NO_LINKS) {
                    linkHoldsBad(situation, v, k);
                }
            }
        }
    }

    private static void linkHoldsOfNoLiveRecord() {
        for (Situation situation : Situation.ALL) {
            for (int v = 0; v < 8; v++) {
                if (situation.kinds.charAt(v) != 'L') {
                    linkHoldsBad(situation, v, 0);
                    linkHoldsBad(situation, v, 1);
                }
            }
        }
    }

    private static void linkHoldsBad(Situation situation, int v, int k) {
        situation.changesNothing("linkHolds(" + v + ", " + k + ")", h -> h.linkHolds(v, k), BAD);
    }

    /** Two wrong ones are not the same either, though neither holds anything. */
    private static void sameOfNoVariable() {
        for (Situation situation : Situation.ALL) {
            for (int[] pair : WRONG_PAIRS) {
                int v = pair[0];
                int w = pair[1];
                situation.changesNothing("same(" + v + ", " + w + ")", h -> h.same(v, w) ? 1 : 0, 0);
            }
        }
    }
}

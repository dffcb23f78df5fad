/**
 * The boundary cases of the promises that no call is refused in, each sentence with a test of its
 * own: what is empty, full, NIL, dead, its own self, or wraps.
 */
public final class BoundariesTest {
    private static final int OK = KeyHeap.OK;
    private static final int NIL = KeyHeap.NIL;
    private static final int LIVE = KeyHeap.LIVE;
    private static final int DEAD = KeyHeap.DEAD;
    private static final int MIN = Integer.MIN_VALUE;
    private static final int MAX = Integer.MAX_VALUE;
    private static final int[] EDGE_NUMBERS = {MIN, -1, 0, 1, MAX};
    /** What variables 0, 1 and 2 of nilLiveDead() hold. */
    private static final int[] KINDS = {NIL, LIVE, DEAD};

    public static void main(String[] args) {
        promises1To4();
        promises5To8();
        promises9To12();
        promises13To16();
        Answers.sentence("9 to 14, 16: What v holds and so on, with no word of a change",
                BoundariesTest::askingChangesNothing);
        Answers.end();
    }

    private static void promises1To4() {
        Answers.sentence("1: All variables hold NIL", BoundariesTest::newVariablesHoldNil);
        Answers.sentence("1: no records", BoundariesTest::newObjectIsEmpty);
        Answers.sentence("2: a record with number n", BoundariesTest::makeWithEveryEdgeNumber);
        Answers.sentence("2: and both links NIL", BoundariesTest::makeInAUsedPlaceHasNilLinks);
        Answers.sentence("2: and lets variable v point to it", BoundariesTest::makeOverEveryKindOfPointer);
        Answers.sentence("2: otherwise OK", BoundariesTest::makeTheSixth);
        Answers.sentence("3: Throws the record away that v points to", BoundariesTest::disposeOneOfSix);
        Answers.sentence("3: otherwise OK", BoundariesTest::disposeTheLast);
        Answers.sentence("3: (v keeps its pointer.)", BoundariesTest::disposeKeepsThePointer);
        Answers.sentence("4: Lets v hold NIL. Answers OK", BoundariesTest::setNilOverEveryKind);
    }

    private static void promises5To8() {
        Answers.sentence("5: the pointer that w holds, whatever it is", BoundariesTest::copyOfEveryKind);
        Answers.sentence("5: Answers OK (v and w the same)", BoundariesTest::copyOntoItself);
        Answers.sentence("6: Sets the number of the record v points to", BoundariesTest::setEveryEdgeNumber);
        Answers.sentence("7: the pointer that w holds, whatever it is", BoundariesTest::setLinkToEveryKind);
        Answers.sentence("7: NIL_FAULT or DANGLING for v, otherwise OK", BoundariesTest::setLinkIsNotRefusedForW);
        Answers.sentence("8: the pointer that link k holds, whatever it is", BoundariesTest::followToEveryKind);
        Answers.sentence("8: NIL_FAULT or DANGLING for w, otherwise OK", BoundariesTest::followIsNotRefusedForV);
    }

    private static void promises9To12() {
        Answers.sentence("9: NIL, LIVE or DEAD", BoundariesTest::holdsOfEveryKind);
        Answers.sentence("10: The number when that is live", BoundariesTest::numberOfTheLive);
        Answers.sentence("10: otherwise 0", BoundariesTest::numberOfNilAndDead);
        Answers.sentence("11: NIL, LIVE or DEAD", BoundariesTest::linkHoldsOfEveryKind);
        Answers.sentence("12: the same record and that is live", BoundariesTest::sameLiveRecord);
        Answers.sentence("12: or both hold NIL", BoundariesTest::sameNil);
        Answers.sentence("12: False when one of them holds a pointer to a record that was thrown away",
                BoundariesTest::notSameWhenDead);
    }

    private static void promises13To16() {
        Answers.sentence("13: The number of live records", BoundariesTest::liveFromNoneToSixAndBack);
        Answers.sentence("14: The number of live records that can be come to from some variable",
                BoundariesTest::reachedFromNoneToSix);
        Answers.sentence("14: along pointers to live records", BoundariesTest::reachedNotPastTheDead);
        Answers.sentence("14: (and then its links)", BoundariesTest::reachedAlongTheLongestWays);
        Answers.sentence("15: Throws every live record away that reached() does not count",
                BoundariesTest::sweepKeepsTheReached);
        Answers.sentence("15: and answers how many", BoundariesTest::sweepFromNoneToSix);
        Answers.sentence("16: The sum, wrapping", BoundariesTest::totalWraps);
        Answers.sentence("16: of the numbers of all live records", BoundariesTest::totalOfTheLiveAlone);
    }

    private static void due(String call, Object got, Object want) {
        Answers.due(call, got, want);
    }

    private static KeyHeap sixMade() {
        KeyHeap heap = new KeyHeap();
        for (int v = 0; v < 6; v++) {
            heap.make(v, v + 1);
        }
        return heap;
    }

    /** Variable 0 holds NIL, 1 points to a live record with number 11, 2 to a dead one. */
    private static KeyHeap nilLiveDead() {
        KeyHeap heap = new KeyHeap();
        heap.make(1, 11);
        heap.make(2, 22);
        heap.dispose(2);
        return heap;
    }

    private static void newVariablesHoldNil() {
        KeyHeap heap = new KeyHeap();
        for (int v = 0; v < 8; v++) {
            due("holds(" + v + ")", heap.holds(v), NIL);
        }
    }

    private static void newObjectIsEmpty() {
        sixMade();
        KeyHeap heap = new KeyHeap();
        due("live()", heap.live(), 0);
        due("reached()", heap.reached(), 0);
        due("total()", heap.total(), 0);
        due("sweep()", heap.sweep(), 0);
    }

    private static void makeWithEveryEdgeNumber() {
        for (int n : EDGE_NUMBERS) {
            KeyHeap heap = new KeyHeap();
            heap.make(0, n);
            due("number(0) after make(0, " + n + ")", heap.number(0), n);
        }
    }

    /** Each of the six places has had a record with links to live and to dead ones. */
    private static void makeInAUsedPlaceHasNilLinks() {
        KeyHeap heap = sixMade();
        for (int v = 0; v < 6; v++) {
            heap.setLink(v, 0, v);
            heap.setLink(v, 1, (v + 1) % 6);
        }
        for (int v = 0; v < 6; v++) {
            heap.dispose(v);
            heap.make(v, 0);
            due("linkHolds(" + v + ", 0)", heap.linkHolds(v, 0), NIL);
            due("linkHolds(" + v + ", 1)", heap.linkHolds(v, 1), NIL);
        }
    }

    private static void makeOverEveryKindOfPointer() {
        for (int v = 0; v < 3; v++) {
            KeyHeap heap = nilLiveDead();
            heap.copy(7, v);
            due("make(" + v + ", 5)", heap.make(v, 5), OK);
            due("number(" + v + ")", heap.number(v), 5);
            due("same(" + v + ", 7)", heap.same(v, 7), false);
            due("holds(7), which keeps the old pointer", heap.holds(7), KINDS[v]);
            due("live(), for the old record stays", heap.live(), 2);
        }
    }

    private static void makeTheSixth() {
        KeyHeap heap = new KeyHeap();
        for (int n = 1; n <= 5; n++) {
            heap.make(7, n);
        }
        due("make(7, 6) when five are live", heap.make(7, 6), OK);
        due("number(7)", heap.number(7), 6);
        due("total()", heap.total(), 21);
    }

    private static void disposeOneOfSix() {
        for (int v = 0; v < 6; v++) {
            KeyHeap heap = sixMade();
            heap.dispose(v);
            for (int w = 0; w < 6; w++) {
                due("holds(" + w + ") after dispose(" + v + ")", heap.holds(w), v == w ? DEAD : LIVE);
            }
            due("total() after dispose(" + v + ")", heap.total(), 21 - (v + 1));
        }
    }

    private static void disposeTheLast() {
        KeyHeap heap = sixMade();
        for (int v = 5; v >= 0; v--) {
            due("dispose(" + v + ")", heap.dispose(v), OK);
            due("live()", heap.live(), v);
        }
    }

    /** Neither does it become NIL, nor do the other pointers to the record go. */
    private static void disposeKeepsThePointer() {
        KeyHeap heap = new KeyHeap();
        heap.make(0, 1);
        heap.copy(1, 0);
        heap.make(2, 2);
        heap.setLink(2, 0, 0);
        heap.setLink(0, 1, 0);
        heap.dispose(0);
        due("holds(0)", heap.holds(0), DEAD);
        due("holds(1)", heap.holds(1), DEAD);
        due("linkHolds(2, 0)", heap.linkHolds(2, 0), DEAD);
        due("dispose(0) again", heap.dispose(0), KeyHeap.DANGLING);
    }

    private static void setNilOverEveryKind() {
        for (int v = 0; v < 3; v++) {
            KeyHeap heap = nilLiveDead();
            due("setNil(" + v + ")", heap.setNil(v), OK);
            for (int w = 0; w < 3; w++) {
                due("holds(" + w + ") after setNil(" + v + ")", heap.holds(w), v == w ? NIL : KINDS[w]);
            }
            due("live(), for no record goes", heap.live(), 1);
        }
    }

    private static void copyOfEveryKind() {
        for (int v = 0; v < 3; v++) {
            for (int w = 0; w < 3; w++) {
                KeyHeap heap = nilLiveDead();
                due("copy(" + v + ", " + w + ")", heap.copy(v, w), OK);
                due("holds(" + v + ") after copy(" + v + ", " + w + ")", heap.holds(v), KINDS[w]);
                due("holds(" + w + ") after copy(" + v + ", " + w + ")", heap.holds(w), KINDS[w]);
                due("same after copy(" + v + ", " + w + ")", heap.same(v, w), KINDS[w] != DEAD);
                due("live(), for no record is made or goes", heap.live(), 1);
            }
        }
    }

    private static void copyOntoItself() {
        for (Situation situation : Situation.ALL) {
            for (int v = 0; v < 8; v++) {
                int variable = v;
                situation.changesNothing("copy(" + v + ", " + v + ")", h -> h.copy(variable, variable), OK);
            }
        }
    }

    private static void setEveryEdgeNumber() {
        for (int n : EDGE_NUMBERS) {
            KeyHeap heap = nilLiveDead();
            heap.copy(7, 1);
            heap.make(3, 33);
            due("setNumber(1, " + n + ")", heap.setNumber(1, n), OK);
            due("number(1)", heap.number(1), n);
            due("number(7), the same record", heap.number(7), n);
            due("number(3), another record", heap.number(3), 33);
        }
    }

    /** Each link, from each kind it may hold to each kind. */
    private static void setLinkToEveryKind() {
        for (int k = 0; k < 2; k++) {
            for (int before = 0; before < 3; before++) {
                for (int w = 0; w < 3; w++) {
                    KeyHeap heap = nilLiveDead();
                    heap.setLink(1, k, before);
                    heap.setLink(1, k, w);
                    String after = " after setLink(1, " + k + ", " + w + ")";
                    due("linkHolds(1, " + k + ")" + after, heap.linkHolds(1, k), KINDS[w]);
                    due("linkHolds(1, " + (1 - k) + ")" + after, heap.linkHolds(1, 1 - k), NIL);
                    due("holds(1)" + after, heap.holds(1), LIVE);
                    due("holds(" + w + ")" + after, heap.holds(w), KINDS[w]);
                }
            }
        }
    }

    private static void setLinkIsNotRefusedForW() {
        for (int w = 0; w < 3; w++) {
            due("setLink(1, 0, " + w + ")", nilLiveDead().setLink(1, 0, w), OK);
            due("setLink(1, 1, " + w + ")", nilLiveDead().setLink(1, 1, w), OK);
        }
    }

    /** Also into the variable that is gone through. */
    private static void followToEveryKind() {
        for (int k = 0; k < 2; k++) {
            for (int w = 0; w < 3; w++) {
                for (int v = 0; v < 3; v++) {
                    KeyHeap heap = nilLiveDead();
                    heap.copy(7, 1);
                    heap.setLink(1, k, w);
                    heap.follow(v, 1, k);
                    due("holds(" + v + ") after follow(" + v + ", 1, " + k + ")", heap.holds(v), KINDS[w]);
                    due("number(7), the record gone through", heap.number(7), 11);
                    due("linkHolds(7, " + k + "), which stays", heap.linkHolds(7, k), KINDS[w]);
                    due("live()", heap.live(), 1);
                }
            }
        }
    }

    private static void followIsNotRefusedForV() {
        for (int v = 0; v < 3; v++) {
            due("follow(" + v + ", 1, 0)", nilLiveDead().follow(v, 1, 0), OK);
            due("follow(" + v + ", 1, 1)", nilLiveDead().follow(v, 1, 1), OK);
        }
    }

    private static void holdsOfEveryKind() {
        for (Situation situation : Situation.ALL) {
            for (int v = 0; v < 8; v++) {
                int want = KINDS["NLD".indexOf(situation.kinds.charAt(v))];
                due(situation.name + ": holds(" + v + ")", situation.heap().holds(v), want);
            }
        }
    }

    private static void numberOfTheLive() {
        for (int n : EDGE_NUMBERS) {
            KeyHeap heap = new KeyHeap();
            heap.make(6, n);
            heap.copy(7, 6);
            heap.setNil(6);
            due("number(7)", heap.number(7), n);
        }
    }

    /** Also when another record has come in the place of the dead one. */
    private static void numberOfNilAndDead() {
        KeyHeap heap = nilLiveDead();
        due("number(0) of NIL", heap.number(0), 0);
        due("number(2) of the dead", heap.number(2), 0);
        heap.make(3, 33);
        due("number(0) of NIL with a later record", heap.number(0), 0);
        due("number(2) of the dead with a later record", heap.number(2), 0);
    }

    private static void linkHoldsOfEveryKind() {
        KeyHeap heap = nilLiveDead();
        heap.make(3, 33);
        for (int w = 0; w < 3; w++) {
            heap.setLink(3, 0, w);
            heap.setLink(3, 1, 2 - w);
            due("linkHolds(3, 0) of " + w, heap.linkHolds(3, 0), KINDS[w]);
            due("linkHolds(3, 1) of " + (2 - w), heap.linkHolds(3, 1), KINDS[2 - w]);
        }
        heap.setLink(3, 1, 1);
        heap.dispose(1);
        due("linkHolds(3, 1) when its record is thrown away", heap.linkHolds(3, 1), DEAD);
    }

    private static void sameLiveRecord() {
        KeyHeap heap = sixMade();
        for (int v = 0; v < 6; v++) {
            heap.setNumber(v, 5);
            heap.copy(7, v);
            due("same(7, " + v + ")", heap.same(7, v), true);
            due("same(" + v + ", 7)", heap.same(v, 7), true);
            due("same(" + v + ", " + v + ")", heap.same(v, v), true);
            due("same(" + v + ", 6), live and NIL", heap.same(v, 6), false);
            due("same(6, " + v + "), NIL and live", heap.same(6, v), false);
            for (int w = 0; w < v; w++) {
                due("same(" + v + ", " + w + "), alike but two", heap.same(v, w), false);
            }
        }
    }

    private static void sameNil() {
        for (Situation situation : Situation.ALL) {
            for (int v : situation.variables('N')) {
                for (int w = 0; w < 8; w++) {
                    boolean want = situation.kinds.charAt(w) == 'N';
                    due(situation.name + ": same(" + v + ", " + w + ")", situation.heap().same(v, w), want);
                    due(situation.name + ": same(" + w + ", " + v + ")", situation.heap().same(w, v), want);
                }
            }
        }
    }

    /** Neither with NIL, nor a live record, nor the same dead record, nor its own self. */
    private static void notSameWhenDead() {
        for (Situation situation : Situation.ALL) {
            for (int v : situation.variables('D')) {
                for (int w = 0; w < 8; w++) {
                    due(situation.name + ": same(" + v + ", " + w + ")", situation.heap().same(v, w), false);
                    due(situation.name + ": same(" + w + ", " + v + ")", situation.heap().same(w, v), false);
                }
            }
        }
    }

    private static void liveFromNoneToSixAndBack() {
        KeyHeap heap = new KeyHeap();
        for (int n = 0; n < 6; n++) {
            due("live() of " + n, heap.live(), n);
            heap.make(n, n);
        }
        due("live() of six", heap.live(), 6);
        heap.make(6, 6);
        due("live() of six when a seventh was refused", heap.live(), 6);
        for (int n = 5; n >= 0; n--) {
            heap.dispose(n);
            due("live() of " + n + " when others were thrown away", heap.live(), n);
        }
        heap.dispose(0);
        due("live() of none when dispose was refused", heap.live(), 0);
    }

    /** A record counts once, however many pointers it is come to by. */
    private static void reachedFromNoneToSix() {
        KeyHeap heap = new KeyHeap();
        for (int n = 0; n < 6; n++) {
            due("reached() of " + n, heap.reached(), n);
            heap.make(n, n);
            heap.copy(7, n);
            heap.setLink(n, 0, n);
            heap.setLink(n, 1, 0);
        }
        due("reached() of six", heap.reached(), 6);
        KeyHeap lost = Situation.FULL_AND_LOST.heap();
        due("reached() of six that are lost", lost.reached(), 0);
        due("live() of six that are lost", lost.live(), 6);
        for (int v = 0; v < 8; v++) {
            KeyHeap one = new KeyHeap();
            one.make(v, 1);
            due("reached() from variable " + v + " alone", one.reached(), 1);
        }
    }

    /** The record behind a dead one lives on but is not come to, even when others take the place. */
    private static void reachedNotPastTheDead() {
        for (int k = 0; k < 2; k++) {
            KeyHeap heap = new KeyHeap();
            heap.make(0, 1);
            heap.make(1, 2);
            heap.make(2, 3);
            heap.setLink(0, k, 1);
            heap.setLink(1, k, 2);
            heap.setNil(2);
            heap.dispose(1);
            due("reached() past a dead record", heap.reached(), 1);
            due("live()", heap.live(), 2);
            heap.make(3, 4);
            heap.setNil(3);
            due("reached() when a lost one is in its place", heap.reached(), 1);
            heap.dispose(0);
            due("reached() when all that is held is dead", heap.reached(), 0);
        }
    }

    /** Every order of six records in a row, one variable at its head, links 0 and 1 in turn. */
    private static void reachedAlongTheLongestWays() {
        for (int code = 0; code < 720; code++) {
            int[] order = orderOfSix(code);
            KeyHeap heap = sixMade();
            for (int i = 0; i < 5; i++) {
                heap.setLink(order[i], (code + i) % 2, order[i + 1]);
            }
            for (int i = 1; i < 6; i++) {
                heap.setNil(order[i]);
            }
            due("reached() along row " + code, heap.reached(), 6);
            heap.follow(order[0], order[0], code % 2);
            due("reached() from the second of row " + code, heap.reached(), 5);
        }
    }

    private static int[] orderOfSix(int code) {
        int[] order = {0, 1, 2, 3, 4, 5};
        int rest = code;
        for (int left = 6; left > 1; left--) {
            int chosen = rest % left;
            rest /= left;
            int moved = order[left - 1];
            order[left - 1] = order[chosen];
            order[chosen] = moved;
        }
        return order;
    }

    /** A lost ring goes though its records point to each other; what it points to stays. */
    private static void sweepKeepsTheReached() {
        KeyHeap heap = sixMade();
        heap.setLink(0, 0, 1);
        heap.setLink(1, 1, 0);
        heap.setLink(1, 0, 2);
        heap.setLink(2, 1, 3);
        heap.setNil(0);
        heap.setNil(1);
        heap.setNil(3);
        due("sweep()", heap.sweep(), 2);
        due("number(2), which a lost record points to", heap.number(2), 3);
        due("linkHolds(2, 1), reached by a link alone", heap.linkHolds(2, 1), LIVE);
        due("holds(4)", heap.holds(4), LIVE);
        due("holds(5)", heap.holds(5), LIVE);
        due("total()", heap.total(), 18);
        due("live() is reached()", heap.live(), heap.reached());
        for (Situation situation : new Situation[] {Situation.NEW, Situation.ALL_DEAD, Situation.FULL}) {
            situation.changesNothing("sweep() with nothing to throw away", KeyHeap::sweep, 0);
        }
    }

    private static void sweepFromNoneToSix() {
        for (int lost = 0; lost <= 6; lost++) {
            KeyHeap heap = sixMade();
            for (int v = 0; v < lost; v++) {
                heap.setNil(5 - v);
            }
            due("sweep() of " + lost, heap.sweep(), lost);
            due("live() after sweep() of " + lost, heap.live(), 6 - lost);
            due("sweep() again", heap.sweep(), 0);
        }
    }

    /** Above, below, several times over, and to 0. */
    private static void totalWraps() {
        due("total() of MAX and 1", totalOf(MAX, 1), MIN);
        due("total() of MIN and -1", totalOf(MIN, -1), MAX);
        due("total() of MAX and MAX", totalOf(MAX, MAX), -2);
        due("total() of MIN and MIN", totalOf(MIN, MIN), 0);
        due("total() of MAX and MIN", totalOf(MAX, MIN), -1);
        due("total() of six times MAX", totalOf(MAX, MAX, MAX, MAX, MAX, MAX), -6);
        due("total() of six times MIN", totalOf(MIN, MIN, MIN, MIN, MIN, MIN), 0);
        due("total() of five times MIN", totalOf(MIN, MIN, MIN, MIN, MIN), MIN);
        due("total() of MAX, 1 and -1, there and back", totalOf(MAX, 1, -1), MAX);
        due("total() of MAX alone", totalOf(MAX), MAX);
        due("total() of MIN alone", totalOf(MIN), MIN);
    }

    private static int totalOf(int... numbers) {
        KeyHeap heap = new KeyHeap();
        for (int v = 0; v < numbers.length; v++) {
            heap.make(v, numbers[v]);
        }
        return heap.total();
    }

    /** Lost records count until they are thrown away; dead ones do not, nor do old numbers. */
    private static void totalOfTheLiveAlone() {
        due("total() of none", totalOf(), 0);
        KeyHeap heap = sixMade();
        due("total() of six", heap.total(), 21);
        heap.setNil(5);
        due("total() when one is lost", heap.total(), 21);
        heap.sweep();
        due("total() when it was swept", heap.total(), 15);
        heap.dispose(0);
        due("total() when one was thrown away", heap.total(), 14);
        heap.setNumber(1, MAX);
        due("total() when a number was set", heap.total(), MIN + 11);
        heap.make(1, 2);
        due("total() when its variable points elsewhere", heap.total(), MIN + 13);
        for (int v = 1; v < 5; v++) {
            heap.dispose(v);
        }
        due("total() of the one that is lost", heap.total(), MAX);
        heap.sweep();
        due("total() when all were thrown away", heap.total(), 0);
    }

    private static void askingChangesNothing() {
        for (Situation situation : Situation.ALL) {
            situation.leftAsItWas("every asking call", h -> {
                for (int v = 0; v < 8; v++) {
                    h.holds(v);
                    h.number(v);
                    h.linkHolds(v, 0);
                    h.linkHolds(v, 1);
                    h.same(v, 7 - v);
                }
                return h.live() + h.reached() + h.total();
            });
        }
    }
}

public final class KeyHeap {
    public static final int OK = 0;
    public static final int BAD = -1;
    public static final int FULL = -2;
    public static final int NIL_FAULT = -3;
    public static final int DANGLING = -4;
    public static final int NIL = 0;
    public static final int LIVE = 1;
    public static final int DEAD = 2;

    private static final int VARIABLES = 8;
    private static final int SLOTS = 6;
    private static final int LINKS = 2;
    private static final int LINK_PLACES = 12;
    private static final int FREE = 0;
    private static final int NO_SLOT = -1;

    // A pointer is NIL or the serial of its record. Only live records have a
    // slot. A serial is never given twice, so a pointer to a record that was
    // thrown away finds no slot, even when the slot has a new record.
    private final int[] pointers = new int[VARIABLES];
    private final int[] serials = new int[SLOTS];
    private final int[] numbers = new int[SLOTS];
    private final int[] links = new int[LINK_PLACES];
    private int lastSerial;

    public KeyHeap() {
        // New arrays hold zeros, which are NIL for a variable and FREE for a slot.
        lastSerial = 0;
    }

    public int make(int v, int n) {
        if (!isVariable(v)) {
            return BAD;
        }
        int slot = freeSlot();
        if (slot == NO_SLOT) {
            return FULL;
        }
        lastSerial++;
        serials[slot] = lastSerial;
        numbers[slot] = n;
        // The record that had this slot before may have left its links here.
        links[linkPlace(slot, 0)] = NIL;
        links[linkPlace(slot, 1)] = NIL;
        pointers[v] = lastSerial;
        return OK;
    }

    public int dispose(int v) {
        if (!isVariable(v)) {
            return BAD;
        }
        int slot = slotOf(pointers[v]);
        if (slot == NO_SLOT) {
            return faultOf(pointers[v]);
        }
        serials[slot] = FREE;
        return OK;
    }

    public int setNil(int v) {
        if (!isVariable(v)) {
            return BAD;
        }
        pointers[v] = NIL;
        return OK;
    }

    public int copy(int v, int w) {
        if (!isVariable(v) || !isVariable(w)) {
            return BAD;
        }
        pointers[v] = pointers[w];
        return OK;
    }

    public int setNumber(int v, int n) {
        if (!isVariable(v)) {
            return BAD;
        }
        int slot = slotOf(pointers[v]);
        if (slot == NO_SLOT) {
            return faultOf(pointers[v]);
        }
        numbers[slot] = n;
        return OK;
    }

    public int setLink(int v, int k, int w) {
        if (!isVariable(v) || !isVariable(w) || !isLink(k)) {
            return BAD;
        }
        int slot = slotOf(pointers[v]);
        if (slot == NO_SLOT) {
            return faultOf(pointers[v]);
        }
        links[linkPlace(slot, k)] = pointers[w];
        return OK;
    }

    public int follow(int v, int w, int k) {
        if (!isVariable(v) || !isVariable(w) || !isLink(k)) {
            return BAD;
        }
        int slot = slotOf(pointers[w]);
        if (slot == NO_SLOT) {
            return faultOf(pointers[w]);
        }
        pointers[v] = links[linkPlace(slot, k)];
        return OK;
    }

    public int holds(int v) {
        if (!isVariable(v)) {
            return BAD;
        }
        return kindOf(pointers[v]);
    }

    public int number(int v) {
        if (!isVariable(v)) {
            return 0;
        }
        int slot = slotOf(pointers[v]);
        if (slot == NO_SLOT) {
            return 0;
        }
        return numbers[slot];
    }

    public int linkHolds(int v, int k) {
        if (!isVariable(v) || !isLink(k)) {
            return BAD;
        }
        int slot = slotOf(pointers[v]);
        if (slot == NO_SLOT) {
            return BAD;
        }
        int place = linkPlace(slot, k);
        return kindOf(links[place]);
    }

    public boolean same(int v, int w) {
        if (!isVariable(v) || !isVariable(w)) {
            return false;
        }
        // A pointer to a record that was thrown away is not even the same as itself.
        return pointers[v] == pointers[w] && kindOf(pointers[v]) != DEAD;
    }

    public int live() {
        int count = 0;
        for (int slot = 0; slot < SLOTS; slot++) {
            if (serials[slot] != FREE) {
                count++;
            }
        }
        return count;
    }

    public int reached() {
        int marks = reachedSlots();
        int count = 0;
        for (int slot = 0; slot < SLOTS; slot++) {
            if (isMarked(marks, slot)) {
                count++;
            }
        }
        return count;
    }

    public int sweep() {
        int marks = reachedSlots();
        int count = 0;
        for (int slot = 0; slot < SLOTS; slot++) {
            if (serials[slot] != FREE && !isMarked(marks, slot)) {
                serials[slot] = FREE;
                count++;
            }
        }
        return count;
    }

    public int total() {
        int sum = 0;
        for (int slot = 0; slot < SLOTS; slot++) {
            if (serials[slot] != FREE) {
                sum += numbers[slot];
            }
        }
        return sum;
    }

    private static boolean isVariable(int v) {
        return v >= 0 && v < VARIABLES;
    }

    private static boolean isLink(int k) {
        return k >= 0 && k < LINKS;
    }

    private static int linkPlace(int slot, int k) {
        return slot * LINKS + k;
    }

    private int freeSlot() {
        for (int slot = 0; slot < SLOTS; slot++) {
            if (serials[slot] == FREE) {
                return slot;
            }
        }
        return NO_SLOT;
    }

    private int slotOf(int pointer) {
        // NIL is the same number as FREE and would find a free slot.
        if (pointer == NIL) {
            return NO_SLOT;
        }
        for (int slot = 0; slot < SLOTS; slot++) {
            if (serials[slot] == pointer) {
                return slot;
            }
        }
        return NO_SLOT;
    }

    private int kindOf(int pointer) {
        if (pointer == NIL) {
            return NIL;
        }
        return slotOf(pointer) == NO_SLOT ? DEAD : LIVE;
    }

    private static int faultOf(int pointerWithoutSlot) {
        return pointerWithoutSlot == NIL ? NIL_FAULT : DANGLING;
    }

    private int reachedSlots() {
        int marks = slotsOfVariables();
        // A way that meets no record twice has fewer steps than there are slots.
        for (int step = 1; step < SLOTS; step++) {
            marks = withLinkedSlots(marks);
        }
        return marks;
    }

    private int slotsOfVariables() {
        int marks = 0;
        for (int v = 0; v < VARIABLES; v++) {
            int slot = slotOf(pointers[v]);
            marks = withSlot(marks, slot);
        }
        return marks;
    }

    private int withLinkedSlots(int marks) {
        int wider = marks;
        for (int place = 0; place < LINK_PLACES; place++) {
            if (isMarked(marks, place / LINKS)) {
                int slot = slotOf(links[place]);
                wider = withSlot(wider, slot);
            }
        }
        return wider;
    }

    private static int withSlot(int marks, int slot) {
        return slot == NO_SLOT ? marks : marks | 1 << slot;
    }

    private static boolean isMarked(int marks, int slot) {
        return (marks >> slot & 1) == 1;
    }
}

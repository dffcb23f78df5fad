import java.util.ArrayList;
import java.util.List;
import java.util.function.Supplier;
import java.util.function.ToIntFunction;

/** A state that calls are tried in: how to come to it, and what its variables hold there. */
final class Situation {
    static final Situation NEW = new Situation("new", "NNNNNNNN", 0, KeyHeap::new);
    static final Situation MIXED = new Situation("mixed", "NLLDLDNN", 3, Situation::mixed);
    static final Situation ALL_DEAD = new Situation("all dead", "DDDDDDDD", 0, Situation::allDead);
    static final Situation FULL = new Situation("full", "LLLLLNDL", 6, Situation::full);
    static final Situation FULL_AND_LOST = new Situation("full and lost", "NNNNNNNN", 6, Situation::fullAndLost);
    static final List<Situation> ALL = List.of(NEW, MIXED, ALL_DEAD, FULL, FULL_AND_LOST);

    final String name;
    /** One letter for each variable: N for NIL, L for a live record, D for one that was thrown away. */
    final String kinds;
    final int live;
    private final Supplier<KeyHeap> start;
    private final String picture;

    private Situation(String name, String kinds, int live, Supplier<KeyHeap> start) {
        this.name = name;
        this.kinds = kinds;
        this.live = live;
        this.start = start;
        this.picture = pictureOf(start);
    }

    KeyHeap heap() {
        return start.get();
    }

    /** The variables that hold what the letter says. */
    List<Integer> variables(char kind) {
        List<Integer> found = new ArrayList<>();
        for (int v = 0; v < 8; v++) {
            if (kinds.charAt(v) == kind) {
                found.add(v);
            }
        }
        return found;
    }

    /** The call must answer as is due and leave all that can ever be asked as it was. */
    void changesNothing(String call, ToIntFunction<KeyHeap> act, int want) {
        Answers.due(name + ": " + call, act.applyAsInt(heap()), want);
        leftAsItWas(call, act);
    }

    void leftAsItWas(String call, ToIntFunction<KeyHeap> act) {
        String after = pictureOf(() -> {
            KeyHeap heap = heap();
            act.applyAsInt(heap);
            return heap;
        });
        Answers.due(name + ": whether nothing has changed after " + call, after.equals(picture), true);
    }

    /**
     * What all calls tell of a state. Looking behind links and at the room that is left changes
     * an object, and it stands 512 calls alone, so each look takes an object of its own.
     */
    private static String pictureOf(Supplier<KeyHeap> start) {
        StringBuilder picture = new StringBuilder(askedOf(start.get()));
        for (int v = 0; v < 8; v++) {
            for (int k = 0; k < 2; k++) {
                KeyHeap behindLink = start.get();
                picture.append("\nfollow ").append(behindLink.follow(7, v, k)).append(": ");
                picture.append(askedOf(behindLink));
            }
        }
        KeyHeap swept = start.get();
        picture.append("\nsweep ").append(swept.sweep()).append(": ").append(askedOf(swept));
        KeyHeap filled = start.get();
        picture.append("\nroom ").append(fill(filled)).append(": ").append(askedOf(filled));
        return picture.toString();
    }

    private static int fill(KeyHeap heap) {
        int made = 0;
        while (made < 7 && heap.make(7, 1 << made) == KeyHeap.OK) {
            made++;
        }
        return made;
    }

    /** What the asking calls tell, in 63 calls. */
    private static String askedOf(KeyHeap heap) {
        StringBuilder asked = new StringBuilder();
        for (int v = 0; v < 8; v++) {
            asked.append(v).append(": ").append(heap.holds(v)).append(' ').append(heap.number(v));
            asked.append(' ').append(heap.linkHolds(v, 0)).append(' ').append(heap.linkHolds(v, 1));
            for (int w = v + 1; w < 8; w++) {
                asked.append(heap.same(v, w) ? " =" : " /").append(w);
            }
            asked.append("; ");
        }
        asked.append(heap.live()).append(' ').append(heap.reached()).append(' ').append(heap.total());
        return asked.toString();
    }

    /** Two live records that link to each other and to a dead one, two pointers to it, and a lost record. */
    private static KeyHeap mixed() {
        KeyHeap heap = new KeyHeap();
        heap.make(1, 11);
        heap.make(2, 22);
        heap.make(3, 33);
        heap.setLink(1, 0, 2);
        heap.setLink(1, 1, 3);
        heap.setLink(2, 1, 1);
        heap.dispose(3);
        heap.copy(4, 1);
        heap.copy(5, 3);
        heap.make(6, 66);
        heap.setNil(6);
        return heap;
    }

    /** Every variable points to a record that was thrown away, one of them to the first of all. */
    private static KeyHeap allDead() {
        KeyHeap heap = new KeyHeap();
        for (int v = 0; v < 8; v++) {
            heap.make(v, v + 1);
            heap.setLink(v, 0, v);
            heap.setLink(v, 1, 0);
            heap.dispose(v);
        }
        return heap;
    }

    /** A ring of five live records, of which the last also links to a sixth that no variable holds. */
    private static KeyHeap full() {
        KeyHeap heap = new KeyHeap();
        heap.make(6, 99);
        heap.dispose(6);
        for (int v = 0; v < 6; v++) {
            heap.make(v, v + 1);
        }
        for (int v = 0; v < 5; v++) {
            heap.setLink(v, 0, (v + 1) % 5);
        }
        heap.setLink(3, 1, 6);
        heap.setLink(4, 1, 5);
        heap.setNil(5);
        heap.copy(7, 1);
        return heap;
    }

    private static KeyHeap fullAndLost() {
        KeyHeap heap = new KeyHeap();
        for (int n = 1; n <= 6; n++) {
            heap.make(0, n);
        }
        heap.setNil(0);
        return heap;
    }
}

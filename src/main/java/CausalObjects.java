/**
 * Three replicas of a set, a register and a counter that learn of each other's changes in any order
 * that respects what each change had seen.
 *
 * A set of changes is held as the bits of a long: bit i stands for the change that was made after i
 * others. The document's 48 changes fit, and the lowest bit of a set is its oldest change.
 */
public final class CausalObjects {
    private static final int REPLICAS = 3;
    private static final int MOST_CHANGES = 48;
    private static final int ELEMENT_MASK = 7;

    private static final int ADD = 1;
    private static final int REMOVE = 2;
    private static final int ASSIGN = 3;
    private static final int COUNT = 4;
    private static final int RESET = 5;

    private static final int DONE = 0;
    private static final int REFUSED = -1;
    private static final int PAST_MISSING = -2;

    private int made = 0;
    private final int[] sorts = new int[MOST_CHANGES];
    /** The element, value or amount of each change; a RESET has none and leaves 0. */
    private final int[] details = new int[MOST_CHANGES];
    private final long[] pasts = new long[MOST_CHANGES];
    private final long[] knownAt = new long[REPLICAS];
    private final long[] madeAt = new long[REPLICAS];

    public CausalObjects() {
    }

    public int add(int replica, int element) {
        return make(replica, ADD, element & ELEMENT_MASK);
    }

    public int remove(int replica, int element) {
        return make(replica, REMOVE, element & ELEMENT_MASK);
    }

    public int assign(int replica, int value) {
        return make(replica, ASSIGN, value);
    }

    public int count(int replica, int amount) {
        return make(replica, COUNT, amount);
    }

    public int reset(int replica) {
        return make(replica, RESET, 0);
    }

    public int deliver(int from, int to) {
        if (!isReplica(from) || !isReplica(to)) {
            return REFUSED;
        }
        long unknown = madeAt[from] & ~knownAt[to];
        if (unknown == 0L) {
            return REFUSED;
        }
        long oldest = unknown & -unknown;
        long past = pastsOf(oldest);
        if ((past & ~knownAt[to]) != 0L) {
            return PAST_MISSING;
        }
        knownAt[to] |= oldest;
        return DONE;
    }

    public int sync(int from, int to) {
        if (!isReplica(from) || !isReplica(to)) {
            return REFUSED;
        }
        knownAt[to] |= knownAt[from];
        return DONE;
    }

    public int has(int replica, int element) {
        if (!isReplica(replica)) {
            return REFUSED;
        }
        int wanted = element & ELEMENT_MASK;
        long adds = knownOfElement(replica, ADD, wanted);
        long removes = knownOfElement(replica, REMOVE, wanted);
        long resets = knownOfSort(replica, RESET);
        long undone = pastsOf(removes | resets);
        return (adds & ~undone) != 0L ? 1 : 0;
    }

    public int values(int replica) {
        if (!isReplica(replica)) {
            return REFUSED;
        }
        long shown = shownAssigns(replica);
        return sizeOf(shown);
    }

    public int value(int replica, int place) {
        if (!isReplica(replica)) {
            return 0;
        }
        long shown = shownAssigns(replica);
        for (int i = 0; i < MOST_CHANGES; i++) {
            if (holds(shown, i) && placeOf(shown, i) == place) {
                return details[i];
            }
        }
        return 0;
    }

    public int total(int replica) {
        if (!isReplica(replica)) {
            return 0;
        }
        long counts = knownOfSort(replica, COUNT);
        long resets = knownOfSort(replica, RESET);
        long undone = pastsOf(resets);
        return sumOf(counts & ~undone);
    }

    public int known(int replica, int origin) {
        if (!isReplica(replica) || !isReplica(origin)) {
            return REFUSED;
        }
        return sizeOf(knownAt[replica] & madeAt[origin]);
    }

    private static boolean isReplica(int number) {
        return number >= 0 && number < REPLICAS;
    }

    private static boolean holds(long changes, int i) {
        return (changes >>> i & 1L) != 0L;
    }

    private static int sizeOf(long changes) {
        int size = 0;
        for (int i = 0; i < MOST_CHANGES; i++) {
            if (holds(changes, i)) {
                size++;
            }
        }
        return size;
    }

    private int make(int replica, int sort, int detail) {
        if (!isReplica(replica) || made >= MOST_CHANGES) {
            return REFUSED;
        }
        long change = 1L << made;
        sorts[made] = sort;
        details[made] = detail;
        pasts[made] = knownAt[replica];
        knownAt[replica] |= change;
        madeAt[replica] |= change;
        made++;
        return made;
    }

    /** All changes that are in the past of at least one of the given ones. */
    private long pastsOf(long changes) {
        long past = 0L;
        for (int i = 0; i < MOST_CHANGES; i++) {
            if (holds(changes, i)) {
                past |= pasts[i];
            }
        }
        return past;
    }

    private long knownOfSort(int replica, int sort) {
        long found = 0L;
        for (int i = 0; i < MOST_CHANGES; i++) {
            if (holds(knownAt[replica], i) && sorts[i] == sort) {
                found |= 1L << i;
            }
        }
        return found;
    }

    private long knownOfElement(int replica, int sort, int element) {
        long ofSort = knownOfSort(replica, sort);
        long found = 0L;
        for (int i = 0; i < MOST_CHANGES; i++) {
            if (holds(ofSort, i) && details[i] == element) {
                found |= 1L << i;
            }
        }
        return found;
    }

    private long shownAssigns(int replica) {
        long assigns = knownOfSort(replica, ASSIGN);
        long resets = knownOfSort(replica, RESET);
        long undone = pastsOf(assigns | resets);
        return assigns & ~undone;
    }

    /** Equal values stand in the order they were made, so that each has a place of its own. */
    private int placeOf(long assigns, int change) {
        int place = 0;
        for (int i = 0; i < MOST_CHANGES; i++) {
            boolean before = details[i] < details[change] || details[i] == details[change] && i < change;
            if (holds(assigns, i) && before) {
                place++;
            }
        }
        return place;
    }

    private int sumOf(long counts) {
        int sum = 0;
        for (int i = 0; i < MOST_CHANGES; i++) {
            if (holds(counts, i)) {
                sum += details[i];
            }
        }
        return sum;
    }
}

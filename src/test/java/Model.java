import java.util.ArrayList;
import java.util.Collections;
import java.util.HashSet;
import java.util.List;
import java.util.Set;

/** The document's words as they stand, with library sets: what CausalObjects is compared with. */
final class Model {
    enum Sort { ADD, REMOVE, ASSIGN, COUNT, RESET }

    private static final class Change {
        final int origin;
        final Sort sort;
        final int detail;
        final Set<Change> past;

        Change(int origin, Sort sort, int detail, Set<Change> past) {
            this.origin = origin;
            this.sort = sort;
            this.detail = detail;
            this.past = past;
        }
    }

    private final List<Change> made = new ArrayList<>();
    private final List<Set<Change>> knows = List.of(new HashSet<>(), new HashSet<>(), new HashSet<>());

    private static boolean refused(int replica) {
        return replica < 0 || replica > 2;
    }

    int make(Sort sort, int replica, int detail) {
        if (refused(replica) || made.size() == 48) {
            return -1;
        }
        Change change = new Change(replica, sort, detail, new HashSet<>(knows.get(replica)));
        made.add(change);
        knows.get(replica).add(change);
        return made.size();
    }

    int deliver(int from, int to) {
        if (refused(from) || refused(to)) {
            return -1;
        }
        for (Change change : made) {
            if (change.origin == from && !knows.get(to).contains(change)) {
                if (!knows.get(to).containsAll(change.past)) {
                    return -2;
                }
                knows.get(to).add(change);
                return 0;
            }
        }
        return -1;
    }

    int sync(int from, int to) {
        if (refused(from) || refused(to)) {
            return -1;
        }
        knows.get(to).addAll(new HashSet<>(knows.get(from)));
        return 0;
    }

    int has(int replica, int element) {
        if (refused(replica)) {
            return -1;
        }
        int e = element & 7;
        for (Change add : knows.get(replica)) {
            if (add.sort == Sort.ADD && (add.detail & 7) == e) {
                boolean undone = false;
                for (Change later : knows.get(replica)) {
                    boolean undoes = later.sort == Sort.RESET || later.sort == Sort.REMOVE && (later.detail & 7) == e;
                    undone |= undoes && later.past.contains(add);
                }
                if (!undone) {
                    return 1;
                }
            }
        }
        return 0;
    }

    private List<Integer> shownValues(int replica) {
        List<Integer> shown = new ArrayList<>();
        for (Change assign : knows.get(replica)) {
            boolean undone = assign.sort != Sort.ASSIGN;
            for (Change later : knows.get(replica)) {
                boolean undoes = later.sort == Sort.RESET || later.sort == Sort.ASSIGN;
                undone |= undoes && later.past.contains(assign);
            }
            if (!undone) {
                shown.add(assign.detail);
            }
        }
        Collections.sort(shown);
        return shown;
    }

    int values(int replica) {
        return refused(replica) ? -1 : shownValues(replica).size();
    }

    int value(int replica, int place) {
        if (refused(replica)) {
            return 0;
        }
        List<Integer> shown = shownValues(replica);
        return place >= 0 && place < shown.size() ? shown.get(place) : 0;
    }

    int total(int replica) {
        if (refused(replica)) {
            return 0;
        }
        int sum = 0;
        for (Change count : knows.get(replica)) {
            boolean undone = count.sort != Sort.COUNT;
            for (Change later : knows.get(replica)) {
                undone |= later.sort == Sort.RESET && later.past.contains(count);
            }
            sum += undone ? 0 : count.detail;
        }
        return sum;
    }

    int known(int replica, int origin) {
        if (refused(replica) || refused(origin)) {
            return -1;
        }
        int n = 0;
        for (Change change : knows.get(replica)) {
            n += change.origin == origin ? 1 : 0;
        }
        return n;
    }
}

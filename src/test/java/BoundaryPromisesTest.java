import java.util.List;

/** One test for each sentence of the promises that names a boundary case. */
public final class BoundaryPromisesTest {
    private static final int MIN = Integer.MIN_VALUE;
    private static final int MAX = Integer.MAX_VALUE;
    private static final List<String> CHANGES = Pair.METHODS.subList(0, 5);
    private static final int[][] ORDERS = {{0, 1, 2}, {0, 2, 1}, {1, 0, 2}, {1, 2, 0}, {2, 0, 1}, {2, 1, 0}};
    private static final Checks c = new Checks();

    public static void main(String[] args) {
        c.sentence("Promise 1: no change is made", BoundaryPromisesTest::promise1NoChangeIsMade);
        c.sentence("Promise 2: element & 7, for every int element", BoundaryPromisesTest::promise2EveryIntElement);
        c.sentence("Promise 3: element & 7, for every int element", BoundaryPromisesTest::promise3EveryIntElement);
        for (String sort : CHANGES) {
            c.sentence("Promises 2 to 6, " + sort + ": answers how many changes have been made then", () -> promises2To6HowManyChanges(sort));
            c.sentence("Promises 2 to 6, " + sort + ": -1, and changes nothing, if 48 have been made", () -> promises2To6RefusedAt48(sort));
        }
        c.sentence("Promise 7: -1 if refused", BoundaryPromisesTest::promise7MinusOneIfRefused);
        c.sentence("Promise 7: -1 if it knows all changes with origin from", BoundaryPromisesTest::promise7MinusOneIfAllKnown);
        c.sentence("Promise 7: -2 if there is a change in that one's past that it doesn't know", BoundaryPromisesTest::promise7MinusTwoIfPastMissing);
        c.sentence("Promise 7: both change nothing", BoundaryPromisesTest::promise7BothChangeNothing);
        c.sentence("Promise 7: from = to: it knows all its own, so -1", BoundaryPromisesTest::promise7FromIsTo);
        c.sentence("Promise 8: answers 0, or -1 if refused", BoundaryPromisesTest::promise8ZeroOrRefused);
        c.sentence("Promise 9: 1 if the element & 7 is in the set, else 0, or -1", BoundaryPromisesTest::promise9OneZeroOrRefused);
        c.sentence("Promise 10: how many values, or -1", BoundaryPromisesTest::promise10HowManyOrRefused);
        c.sentence("Promise 11: 0 if there is no such place", BoundaryPromisesTest::promise11NoSuchPlace);
        c.sentence("Promise 11: 0 if refused", BoundaryPromisesTest::promise11Refused);
        c.sentence("Promise 12: 0 if refused", BoundaryPromisesTest::promise12Refused);
        c.sentence("Promise 13: -1 if one of the two is no replica", BoundaryPromisesTest::promise13Refused);
        c.end();
    }

    private static void promise1NoChangeIsMade() {
        new Pair(c).sameFromHereOn();
        for (String sort : CHANGES) {
            for (int replica = 0; replica < 3; replica++) {
                CausalObjects full = new CausalObjects();
                for (int n = 1; n <= Inputs.MOST_CHANGES; n++) {
                    Pair.callOf(full, sort, replica, 1);
                }
                CausalObjects x = new CausalObjects();
                c.due("known", x.known(replica, replica), 0);
                c.due("has", x.has(replica, 1), 0);
                c.due("values", x.values(replica), 0);
                c.due("total", x.total(replica), 0);
                c.due("first " + sort + " of a new object", Pair.callOf(x, sort, replica, 1), 1);
                c.due("known then", x.known(replica, replica), 1);
            }
        }
    }

    private static void promise2EveryIntElement() {
        for (int element : Inputs.elements()) {
            CausalObjects x = new CausalObjects();
            c.due("add " + element, x.add(1, element), 1);
            for (int e = 0; e < 8; e++) {
                c.due("after add " + element + ": has " + e, x.has(1, e), e == (element & 7) ? 1 : 0);
            }
        }
    }

    private static void promise3EveryIntElement() {
        for (int element : Inputs.elements()) {
            CausalObjects x = new CausalObjects();
            for (int e = 0; e < 8; e++) {
                x.add(1, e);
            }
            c.due("remove " + element, x.remove(1, element), 9);
            for (int e = 0; e < 8; e++) {
                c.due("after remove " + element + ": has " + e, x.has(1, e), e == (element & 7) ? 0 : 1);
            }
        }
    }

    private static void promises2To6HowManyChanges(String sort) {
        CausalObjects x = new CausalObjects();
        for (int n = 1; n <= Inputs.MOST_CHANGES; n++) {
            c.due(sort + " as change " + n, Pair.callOf(x, sort, n % 3, n), n);
            // None of these makes a change, so none may be counted.
            x.sync(n % 3, 0);
            x.deliver(n % 3, 1);
            x.add(3, 1);
            x.reset(-1);
            x.has(0, 1);
            x.values(1);
        }
        for (int at = 1; at <= Inputs.MOST_CHANGES; at++) {
            CausalObjects y = new CausalObjects();
            for (int n = 1; n < at; n++) {
                Pair.callOf(y, CHANGES.get(n % 5), n % 3, n);
            }
            c.due(sort + " as change " + at + " of all sorts", Pair.callOf(y, sort, 2, 1), at);
        }
    }

    private static void promises2To6RefusedAt48(String sort) {
        for (int kind = 0; kind < Pair.KINDS; kind++) {
            Pair pair = Pair.with(c, Inputs.MOST_CHANGES, kind);
            for (int replica = 0; replica < 3; replica++) {
                for (int detail : new int[] {0, 1, 5, -1, MIN, MAX}) {
                    pair.changesNothing(sort, replica, detail, -1);
                }
            }
            pair.sameFromHereOn();
            pair.changesNothing(sort, 0, 2, -1);
        }
    }

    private static void promise7MinusOneIfRefused() {
        for (int wrong : Inputs.NO_REPLICAS) {
            for (int good = 0; good < 3; good++) {
                CausalObjects x = new CausalObjects();
                x.add(0, 0);
                x.add(1, 0);
                x.add(2, 0);
                c.due("from " + wrong + " to " + good, x.deliver(wrong, good), -1);
                c.due("from " + good + " to " + wrong, x.deliver(good, wrong), -1);
                c.due("from and to " + wrong, x.deliver(wrong, wrong), -1);
            }
        }
    }

    private static void promise7MinusOneIfAllKnown() {
        for (int[] order : ORDERS) {
            int from = order[0];
            int to = order[1];
            int third = order[2];
            CausalObjects x = new CausalObjects();
            c.due("none made at all", x.deliver(from, to), -1);
            x.count(third, 1);
            x.sync(third, from);
            c.due("from knows one, but made none", x.deliver(from, to), -1);
            x.count(to, 2);
            c.due("to made one, from none", x.deliver(from, to), -1);
            x.sync(third, to);
            x.count(from, 4);
            c.due("one to know", x.deliver(from, to), 0);
            c.due("none left after deliver", x.deliver(from, to), -1);
            x.count(from, 8);
            x.count(from, 16);
            x.sync(from, to);
            c.due("none left after sync", x.deliver(from, to), -1);
            x.count(from, 32);
            x.sync(from, third);
            x.sync(third, to);
            c.due("none left by way of the third", x.deliver(from, to), -1);
            c.due("all were counted once", x.total(to), 63);
        }
        CausalObjects full = new CausalObjects();
        for (int n = 0; n < Inputs.MOST_CHANGES; n++) {
            full.count(2, 1);
        }
        for (int n = 1; n <= Inputs.MOST_CHANGES; n++) {
            c.due("delivery " + n + " of 48", full.deliver(2, 0), 0);
            c.due("it was one", full.total(0), n);
        }
        c.due("delivery 49", full.deliver(2, 0), -1);
    }

    private static void promise7MinusTwoIfPastMissing() {
        for (int[] order : ORDERS) {
            for (String seen : CHANGES) {
                for (String sort : CHANGES) {
                    pastMissing(order[0], order[1], order[2], seen, sort, 0);
                }
            }
            for (int before = 0; before <= Inputs.MOST_CHANGES - 5; before++) {
                pastMissing(order[0], order[1], order[2], "count", "count", before);
            }
            pastMissingInTurns(order[0], order[1], order[2]);
        }
    }

    /** Before the changes of this test, some are made that all replicas know. */
    private static void pastMissing(int from, int to, int third, String seen, String sort, int before) {
        String what = sort + " that saw a " + seen + " after " + before;
        CausalObjects x = new CausalObjects();
        for (int n = 0; n < before; n++) {
            x.add(third, 1);
        }
        x.sync(third, from);
        x.sync(third, to);
        Pair.callOf(x, sort, from, 3);
        c.due(what + ": one that had not", x.deliver(from, to), 0);
        Pair.callOf(x, seen, third, 3);
        x.deliver(third, from);
        // Neither of these is seen at from: the one must not hide the change that is missing, the other must not count as missing.
        x.count(to, 1);
        x.count(third, 1);
        Pair.callOf(x, sort, from, 3);
        c.due(what, x.deliver(from, to), -2);
        c.due(what + ": its past", x.deliver(third, to), 0);
        c.due(what + ": then itself", x.deliver(from, to), 0);
        c.due(what + ": none left", x.deliver(from, to), -1);
        c.due(what + ": what it had not seen", x.deliver(third, to), 0);
    }

    /** Each of two replicas sees all the other's changes before it makes its next one. */
    private static void pastMissingInTurns(int a, int b, int to) {
        CausalObjects x = new CausalObjects();
        for (int n = 0; n < Inputs.MOST_CHANGES; n++) {
            x.count(n % 2 == 0 ? a : b, 1);
            x.sync(a, b);
            x.sync(b, a);
        }
        for (int n = 0; n < Inputs.MOST_CHANGES; n++) {
            int from = n % 2 == 0 ? a : b;
            int ahead = n % 2 == 0 ? b : a;
            // At the last turn the other replica has no change left.
            c.due("turn " + n + ": too early", x.deliver(ahead, to), n < Inputs.MOST_CHANGES - 1 ? -2 : -1);
            c.due("turn " + n, x.deliver(from, to), 0);
            c.due("turn " + n + ": total", x.total(to), n + 1);
        }
        c.due("turns are over", x.deliver(a, to), -1);
        c.due("turns are over", x.deliver(b, to), -1);
    }

    private static void promise7BothChangeNothing() {
        for (int[] order : ORDERS) {
            int from = order[0];
            int to = order[1];
            int third = order[2];
            for (String sort : CHANGES) {
                Pair pair = new Pair(c);
                pair.call("add", to, 1);
                pair.call("assign", to, 5);
                pair.call("count", to, 7);
                pair.call("sync", to, third);
                pair.call("add", third, 2);
                pair.call("sync", third, from);
                pair.call(sort, from, 1);
                for (int n = 0; n < 5; n++) {
                    pair.changesNothing("deliver", from, to, -2);
                    pair.changesNothing("deliver", to, from, -1);
                    pair.changesNothing("deliver", to, third, -1);
                    pair.changesNothing("deliver", to, 3, -1);
                    pair.changesNothing("deliver", -1, to, -1);
                }
                pair.sameFromHereOn();
            }
        }
    }

    private static void promise7FromIsTo() {
        for (int replica = 0; replica < 3; replica++) {
            Pair pair = new Pair(c);
            pair.changesNothing("deliver", replica, replica, -1);
            for (int n = 0; n < Inputs.MOST_CHANGES; n++) {
                pair.call(CHANGES.get(n * 3 % 5), n % 2 == 0 ? replica : (replica + 1) % 3, n);
                pair.changesNothing("deliver", replica, replica, -1);
            }
            pair.sameFromHereOn();
            pair.changesNothing("deliver", replica, replica, -1);
        }
    }

    private static void promise8ZeroOrRefused() {
        for (int changes : new int[] {0, 1, 7, 48}) {
            for (int kind = 0; kind < Pair.KINDS; kind++) {
                for (int way = 0; way < 9; way++) {
                    syncThenRefused(Pair.with(c, changes, kind), way / 3, way % 3);
                }
            }
        }
    }

    private static void syncThenRefused(Pair pair, int from, int to) {
        pair.changesNothing("sync", from, from, 0);
        c.due("due of sync", pair.call("sync", from, to), 0);
        pair.changesNothing("sync", from, to, 0);
        for (int wrong : Inputs.NO_REPLICAS) {
            pair.changesNothing("sync", wrong, to, -1);
            pair.changesNothing("sync", from, wrong, -1);
            pair.changesNothing("sync", wrong, wrong, -1);
        }
        pair.sameFromHereOn();
    }

    private static void promise9OneZeroOrRefused() {
        int[] elements = Inputs.elements();
        CausalObjects x = new CausalObjects();
        for (int i = 0; i < elements.length; i++) {
            int in = i / 100 % 8;
            if (i % 100 == 0) {
                x = new CausalObjects();
                x.add(2, in);
                x.add(1, in);
                x.sync(1, 2);
            }
            int element = elements[i];
            int wrong = Inputs.NO_REPLICAS[i % Inputs.NO_REPLICAS.length];
            c.due("only " + in + " is in: has " + element, x.has(2, element), (element & 7) == in ? 1 : 0);
            c.due("none is in: has " + element, x.has(0, element), 0);
            c.due("at " + wrong + ": has " + element, x.has(wrong, element), -1);
        }
    }

    private static void promise10HowManyOrRefused() {
        for (int[] order : ORDERS) {
            CausalObjects x = new CausalObjects();
            int at = order[0];
            c.due("none", x.values(at), 0);
            x.assign(at, -1);
            c.due("one", x.values(at), 1);
            x.assign(order[1], -1);
            x.assign(order[2], 0);
            c.due("one, the others not known", x.values(at), 1);
            x.deliver(order[1], at);
            c.due("two", x.values(at), 2);
            x.deliver(order[2], at);
            c.due("three", x.values(at), 3);
            for (int wrong : Inputs.NO_REPLICAS) {
                c.due("at " + wrong, x.values(wrong), -1);
            }
            x.reset(at);
            c.due("none again", x.values(at), 0);
            x.sync(at, order[1]);
            c.due("none there", x.values(order[1]), 0);
        }
    }

    private static void promise11NoSuchPlace() {
        for (int size = 0; size <= 3; size++) {
            for (int at = 0; at < 3; at++) {
                CausalObjects x = new CausalObjects();
                for (int n = 0; n < size; n++) {
                    x.assign((at + n) % 3, 40 + n);
                }
                x.sync((at + 1) % 3, at);
                x.sync((at + 2) % 3, at);
                int[] noPlaces = {
                    -1, -2, -3, -32, -48, -64, size, size + 1, size + 2, 31, 32, 47, 48, 49, 63, 64, 256, 65536,
                    MIN, MIN + 1, MAX, MAX - 1};
                for (int place : noPlaces) {
                    c.due("place " + place + " of " + size, x.value(at, place), 0);
                }
                for (int place = 0; place < size; place++) {
                    c.due("place " + place + " of " + size, x.value(at, place), 40 + place);
                }
                x.assign(at, 50);
                c.due("place 0 of one that covers them", x.value(at, 0), 50);
                c.due("place 1 of one that covers them", x.value(at, 1), 0);
                x.reset(at);
                c.due("place 0 after a reset", x.value(at, 0), 0);
            }
        }
    }

    private static void promise11Refused() {
        CausalObjects x = registerOf123();
        for (int wrong : Inputs.NO_REPLICAS) {
            for (int place : new int[] {0, 1, 2, 3, -1, wrong, MIN, MAX}) {
                c.due("place " + place + " at " + wrong, x.value(wrong, place), 0);
            }
        }
        for (int replica = 0; replica < 3; replica++) {
            c.due("place 2 at " + replica, x.value(replica, 2), 3);
        }
    }

    /** All replicas know three values and a total that is not 0. */
    private static CausalObjects registerOf123() {
        CausalObjects x = new CausalObjects();
        for (int replica = 0; replica < 3; replica++) {
            x.assign(replica, replica + 1);
            x.count(replica, 100);
        }
        x.sync(0, 1);
        x.sync(1, 2);
        x.sync(2, 1);
        x.sync(2, 0);
        return x;
    }

    private static void promise12Refused() {
        CausalObjects x = registerOf123();
        for (int wrong : Inputs.NO_REPLICAS) {
            c.due("total at " + wrong, x.total(wrong), 0);
        }
        for (int replica = 0; replica < 3; replica++) {
            c.due("total at " + replica, x.total(replica), 300);
        }
    }

    private static void promise13Refused() {
        for (int changes : new int[] {0, 7, 48}) {
            for (int kind = 0; kind < Pair.KINDS; kind++) {
                knownRefused(Pair.with(c, changes, kind), kind % 3);
            }
        }
    }

    private static void knownRefused(Pair pair, int good) {
        for (int wrong : Inputs.NO_REPLICAS) {
            pair.changesNothing("known", wrong, good, -1);
            pair.changesNothing("known", good, wrong, -1);
            pair.changesNothing("known", wrong, wrong, -1);
        }
        pair.sameFromHereOn();
    }
}

import java.util.Arrays;
import java.util.List;

/** One test for each sentence of "What it is" and of "Terms" that names a boundary case. */
public final class BoundaryTermsTest {
    private static final int MIN = Integer.MIN_VALUE;
    private static final int MAX = Integer.MAX_VALUE;
    private static final List<String> CHANGES = Pair.METHODS.subList(0, 5);
    private static final int[][] ORDERS = {{0, 1, 2}, {0, 2, 1}, {1, 0, 2}, {1, 2, 0}, {2, 0, 1}, {2, 1, 0}};
    private static final Checks c = new Checks();

    public static void main(String[] args) {
        c.sentence("What it is: at most 512 calls", BoundaryTermsTest::used512Calls);
        c.sentence("Terms: at most 48 changes in all", BoundaryTermsTest::atMost48Changes);
        c.sentence("Terms: each replica knows none at the start", BoundaryTermsTest::noneKnownAtTheStart);
        c.sentence("Terms: the past is the set of changes that its origin knew when it was made", BoundaryTermsTest::pastIsWhatTheOriginKnew);
        c.sentence("Terms: the past is without the change itself", BoundaryTermsTest::pastIsWithoutTheChangeItself);
        c.sentence("Terms: equal values may come several times", BoundaryTermsTest::equalValuesSeveralTimes);
        c.sentence("Terms: the values are shown in ascending order", BoundaryTermsTest::ascendingOrder);
        c.sentence("Terms: the sum, wrapping as in Java", BoundaryTermsTest::sumWraps);
        c.sentence("Terms: a replica number must be from 0 to 2", BoundaryTermsTest::replicaNumberFrom0To2);
        c.end();
    }

    private static void used512Calls() {
        for (String method : Pair.METHODS) {
            for (int replica = 0; replica < 3; replica++) {
                Pair pair = Pair.with(c, Inputs.MOST_CHANGES - 1, replica);
                pair.askUntil(Inputs.MOST_CALLS - 1);
                pair.call(method, replica, 1);
                // What these answer is free, but no call may throw (LANGUAGE.md, rule 7).
                for (int i = 0; i < 1000; i++) {
                    pair.free(Pair.METHODS.get(i % 12), i % 5 - 1, i % 7 - 2);
                }
            }
        }
    }

    private static void atMost48Changes() {
        int[][] shares = {{48, 0, 0}, {0, 48, 0}, {0, 0, 48}, {47, 1, 0}, {0, 1, 47}, {16, 16, 16}, {1, 46, 1}, {24, 0, 24}};
        for (int[] share : shares) {
            CausalObjects x = new CausalObjects();
            int made = 0;
            for (int replica = 0; replica < 3; replica++) {
                for (int i = 0; i < share[replica]; i++) {
                    made++;
                    c.due("change " + made + " at " + replica, Pair.callOf(x, CHANGES.get(made % 5), replica, made), made);
                }
            }
            for (int replica = 0; replica < 3; replica++) {
                c.due("49th change at " + replica, x.add(replica, 0), -1);
                c.due("own changes of " + replica, x.known(replica, replica), share[replica]);
            }
            for (int i = 0; i < share[0]; i++) {
                c.due("delivery " + i, x.deliver(0, 1), 0);
            }
            c.due("no delivery of a 49th", x.deliver(0, 1), -1);
            x.sync(2, 1);
            c.due("all in all", x.known(1, 0) + x.known(1, 1) + x.known(1, 2), 48);
            c.due("still full", x.count(1, 1), -1);
        }
    }

    private static void noneKnownAtTheStart() {
        for (int replica = 0; replica < 3; replica++) {
            for (int other = 0; other < 3; other++) {
                CausalObjects x = new CausalObjects();
                c.due("known", x.known(replica, other), 0);
                c.due("sync", x.sync(replica, other), 0);
                c.due("known after sync", x.known(other, replica), 0);
                c.due("deliver", x.deliver(replica, other), -1);
                // The first change's past is what was known at the start: any replica may get it at once.
                x.add(replica, 1);
                c.due("deliver the first", x.deliver(replica, other), other == replica ? -1 : 0);
                c.due("known then", x.known(other, replica), 1);
            }
            // One that was known before it was made would show when it is made.
            CausalObjects y = new CausalObjects();
            for (int n = 1; n <= Inputs.MOST_CHANGES; n++) {
                y.add(replica, n);
            }
            c.due("known elsewhere", y.known((replica + 1) % 3, replica), 0);
            c.due("known elsewhere", y.known((replica + 2) % 3, replica), 0);
        }
    }

    private static void pastIsWhatTheOriginKnew() {
        for (int[] order : ORDERS) {
            pastHasWhatWasKnown(order[0], order[1], order[2], true);
            pastHasWhatWasKnown(order[0], order[1], order[2], false);
            pastHasNothingElse(order[0], order[1], order[2]);
        }
    }

    private static void pastHasWhatWasKnown(int a, int b, int other, boolean bySync) {
        CausalObjects x = new CausalObjects();
        x.add(a, 1);
        x.assign(a, 10);
        x.count(a, 100);
        if (bySync) {
            x.sync(a, b);
        } else {
            x.deliver(a, b);
            x.deliver(a, b);
            x.deliver(a, b);
        }
        x.count(b, 1000);
        x.reset(b);
        c.due("the reset's past is missing", x.deliver(b, other), -2);
        x.sync(a, other);
        c.due("then the count comes", x.deliver(b, other), 0);
        c.due("with its amount", x.total(other), 1100);
        c.due("then the reset", x.deliver(b, other), 0);
        c.due("the reset saw the add", x.has(other, 1), 0);
        c.due("the reset saw the assign", x.values(other), 0);
        c.due("the reset saw both counts", x.total(other), 0);
    }

    private static void pastHasNothingElse(int a, int b, int other) {
        CausalObjects x = new CausalObjects();
        x.add(a, 1);
        x.assign(a, 10);
        x.count(a, 100);
        // These are made later than a's, but b gets to know a's only after it has made them.
        x.reset(b);
        x.remove(b, 1);
        x.assign(b, 20);
        x.sync(a, b);
        x.add(a, 2);
        c.due("the reset's past is empty", x.deliver(b, other), 0);
        c.due("the remove's has the reset alone", x.deliver(b, other), 0);
        c.due("the assign's has these two alone", x.deliver(b, other), 0);
        c.due("at b the add stays", x.has(b, 1), 1);
        c.due("at b both assigns stay", x.values(b), 2);
        c.due("at b the count stays", x.total(b), 100);
        x.sync(b, a);
        c.due("at a the add stays", x.has(a, 1), 1);
        c.due("at a the later add stays", x.has(a, 2), 1);
        c.due("at a both assigns stay", x.values(a), 2);
        c.due("at a the count stays", x.total(a), 100);
    }

    private static void pastIsWithoutTheChangeItself() {
        for (String sort : CHANGES) {
            for (int replica = 0; replica < 3; replica++) {
                CausalObjects x = new CausalObjects();
                for (int n = 1; n <= Inputs.MOST_CHANGES; n++) {
                    Pair.callOf(x, sort, replica, 5);
                    // A change in its own past could never be delivered.
                    c.due(sort + " " + n + " is delivered", x.deliver(replica, (replica + 1) % 3), 0);
                }
                c.due(sort + ": an add shows itself", x.has(replica, 5), sort.equals("add") ? 1 : 0);
                c.due(sort + ": an assign shows itself", x.values(replica), sort.equals("assign") ? 1 : 0);
                c.due(sort + ": a count shows itself", x.total(replica), sort.equals("count") ? 240 : 0);
            }
        }
    }

    private static void equalValuesSeveralTimes() {
        for (int value : new int[] {0, 1, -1, 7, MIN, MAX}) {
            CausalObjects x = new CausalObjects();
            x.assign(0, value);
            x.assign(0, value);
            c.due("one over the other", x.values(0), 1);
            x.assign(1, value);
            x.assign(2, value);
            x.deliver(1, 0);
            c.due("two", x.values(0), 2);
            c.due("first of two", x.value(0, 0), value);
            c.due("second of two", x.value(0, 1), value);
            c.due("no third of two", x.value(0, 2), 0);
            x.deliver(2, 0);
            c.due("three", x.values(0), 3);
            for (int place = 0; place < 3; place++) {
                c.due("place " + place + " of three", x.value(0, place), value);
            }
            x.assign(1, value);
            x.sync(0, 1);
            c.due("one for each change", x.values(1), 3);
            x.assign(1, value);
            c.due("one that saw all three", x.values(1), 1);
            c.due("and its value", x.value(1, 0), value);
            c.due("and no second", x.value(1, 1), 0);
        }
    }

    private static void ascendingOrder() {
        int[][] ascending = {
            {1, 2, 3}, {-3, -2, -1}, {-1, 0, 1}, {MIN, 0, MAX}, {MIN, MIN + 1, MAX}, {MIN, MAX - 1, MAX}, {MIN, -1, 1},
            {-2, MAX - 1, MAX}, {MIN, MIN, MAX}, {MIN, MAX, MAX}, {0, 0, 1}, {-1, 0, 0}, {255, 256, 65536}};
        for (int[] due : ascending) {
            for (int[] order : ORDERS) {
                for (int[] makers : ORDERS) {
                    CausalObjects x = new CausalObjects();
                    for (int i = 0; i < 3; i++) {
                        x.assign(makers[i], due[order[i]]);
                    }
                    x.sync(makers[2], makers[0]);
                    shownAre(x, makers[0], Math.min(due[order[0]], due[order[2]]), Math.max(due[order[0]], due[order[2]]));
                    x.sync(makers[1], makers[0]);
                    shownAre(x, makers[0], due);
                }
            }
        }
    }

    private static void shownAre(CausalObjects x, int replica, int... due) {
        c.due("values", x.values(replica), due.length);
        for (int place = 0; place < due.length; place++) {
            c.due("value at place " + place, x.value(replica, place), due[place]);
        }
    }

    private static void sumWraps() {
        totalIs(MIN, MAX, 1);
        totalIs(-2, MAX, MAX);
        totalIs(-3, MAX, MAX, MAX, MIN);
        totalIs(MAX, MIN, -1);
        totalIs(0, MIN, MIN);
        totalIs(-1, MIN, MAX);
        totalIs(0, MAX, 1, MIN);
        totalIs(MIN, MIN, 0);
        totalIs(1, MIN, MIN, 1);
        // 2^32 in three steps, which a total held at an end of int would lose.
        totalIs(5, 5, 1 << 30, 1 << 30, 1 << 30, 1 << 30);
        int[] most = new int[Inputs.MOST_CHANGES];
        Arrays.fill(most, MAX);
        totalIs(-48, most);
        Arrays.fill(most, MIN);
        totalIs(0, most);
    }

    private static void totalIs(int due, int... amounts) {
        CausalObjects one = new CausalObjects();
        CausalObjects three = new CausalObjects();
        for (int i = 0; i < amounts.length; i++) {
            one.count(1, amounts[i]);
            three.count(i % 3, amounts[i]);
        }
        three.sync(0, 2);
        three.sync(1, 2);
        c.due("total counted at one replica", one.total(1), due);
        c.due("total counted at three", three.total(2), due);
    }

    private static void replicaNumberFrom0To2() {
        for (String method : Pair.METHODS) {
            for (int kind = 0; kind < Pair.KINDS; kind++) {
                for (int changes : new int[] {0, 2, 6, 11, 20, 31, 40, 47, 48}) {
                    firstNumberRefused(method, Pair.with(c, changes, kind));
                    if (List.of("deliver", "sync", "known").contains(method)) {
                        secondNumberRefused(method, Pair.with(c, changes, kind));
                    }
                }
            }
        }
        rightNumbersAreTaken();
    }

    private static void firstNumberRefused(String method, Pair pair) {
        int due = method.equals("value") || method.equals("total") ? 0 : -1;
        for (int wrong : Inputs.NO_REPLICAS) {
            for (int good = 0; good < 3; good++) {
                pair.changesNothing(method, wrong, good, due);
            }
        }
        pair.sameFromHereOn();
    }

    private static void secondNumberRefused(String method, Pair pair) {
        for (int wrong : Inputs.NO_REPLICAS) {
            for (int good = 0; good < 3; good++) {
                pair.changesNothing(method, good, wrong, -1);
            }
            pair.changesNothing(method, wrong, wrong, -1);
        }
        pair.sameFromHereOn();
    }

    private static void rightNumbersAreTaken() {
        for (int replica = 0; replica < 3; replica++) {
            CausalObjects x = new CausalObjects();
            int other = (replica + 1) % 3;
            c.due("add", x.add(replica, 1), 1);
            c.due("has", x.has(replica, 1), 1);
            c.due("remove", x.remove(replica, 1), 2);
            c.due("assign", x.assign(replica, 9), 3);
            c.due("values", x.values(replica), 1);
            c.due("value", x.value(replica, 0), 9);
            c.due("count", x.count(replica, 8), 4);
            c.due("total", x.total(replica), 8);
            c.due("deliver", x.deliver(replica, other), 0);
            c.due("sync", x.sync(replica, other), 0);
            c.due("known", x.known(other, replica), 4);
            c.due("reset", x.reset(replica), 5);
        }
    }
}

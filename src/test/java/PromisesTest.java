/** For each promise: ordinary inputs, the edges that the document names, and wrong inputs. */
public final class PromisesTest {
    private static final Checks c = new Checks();

    public static void main(String[] args) {
        promise1NewObject();
        promise1ObjectsAreApart();
        promise2Add();
        promise2AddElementMask();
        promise3Remove();
        promise3RemoveOnlyItsPast();
        promise3RemoveOnlyItsElement();
        promise4Assign();
        promise5Count();
        promise6Reset();
        promise6ResetOnlyItsPast();
        promises2To6AtMost48Changes();
        promises2To6WrongReplica();
        promise7Deliver();
        promise7DeliverPastMissing();
        promise7DeliverFromItself();
        promise7DeliverSkipsWhatIsKnown();
        promise7DeliverWrongReplica();
        promise8Sync();
        promise8SyncPassesOnThirdReplica();
        promise8SyncWrongReplica();
        promise9Has();
        promise10Values();
        promise11Value();
        promise11ValueNoSuchPlace();
        promise12Total();
        promise13Known();
        promises9To13ChangeNothing();
        lastChangeCounts();
        termsShownDependsOnWhatIsKnown();
        c.end();
    }

    private static void promise1NewObject() {
        CausalObjects x = new CausalObjects();
        for (int replica = 0; replica < 3; replica++) {
            for (int other = 0; other < 3; other++) {
                c.due("new: known", x.known(replica, other), 0);
                c.due("new: deliver", x.deliver(replica, other), -1);
                c.due("new: sync", x.sync(replica, other), 0);
            }
            for (int element = 0; element < 8; element++) {
                c.due("new: has", x.has(replica, element), 0);
            }
            c.due("new: values", x.values(replica), 0);
            c.due("new: value", x.value(replica, 0), 0);
            c.due("new: total", x.total(replica), 0);
        }
        c.due("new: first change", x.add(1, 0), 1);
    }

    private static void promise1ObjectsAreApart() {
        CausalObjects x = new CausalObjects();
        x.add(0, 1);
        x.count(0, 5);
        CausalObjects y = new CausalObjects();
        c.due("apart: has", y.has(0, 1), 0);
        c.due("apart: total", y.total(0), 0);
        c.due("apart: known", y.known(0, 0), 0);
        c.due("apart: first change", y.reset(0), 1);
        c.due("apart: x keeps its total", x.total(0), 5);
    }

    private static void promise2Add() {
        CausalObjects x = new CausalObjects();
        c.due("add first", x.add(0, 3), 1);
        c.due("add second, elsewhere", x.add(2, 3), 2);
        c.due("add third, again", x.add(2, 3), 3);
        c.due("add: has at 0", x.has(0, 3), 1);
        c.due("add: has at 2", x.has(2, 3), 1);
        c.due("add: not at 1", x.has(1, 3), 0);
        c.due("add: no other element", x.has(0, 4), 0);
        c.due("add: known at origin", x.known(2, 2), 2);
        c.due("add: values untouched", x.values(0), 0);
        c.due("add: total untouched", x.total(0), 0);
    }

    private static void promise2AddElementMask() {
        int[] elements = {0, 7, 8, 15, -1, -8, Integer.MIN_VALUE, Integer.MAX_VALUE, 1 << 20 | 5};
        for (int element : elements) {
            CausalObjects x = new CausalObjects();
            c.due("add " + element, x.add(0, element), 1);
            for (int e = 0; e < 8; e++) {
                c.due("add " + element + ": has " + e, x.has(0, e), e == (element & 7) ? 1 : 0);
            }
            c.due("remove " + element, x.remove(0, (element & 7) - 64), 2);
            c.due("remove " + element + ": has", x.has(0, element), 0);
        }
    }

    private static void promise3Remove() {
        CausalObjects x = new CausalObjects();
        c.due("remove of what was never added", x.remove(0, 2), 1);
        c.due("remove: known", x.known(0, 0), 1);
        c.due("remove: not in", x.has(0, 2), 0);
        c.due("remove, then add", x.add(0, 2), 2);
        c.due("remove, then add: in", x.has(0, 2), 1);
        c.due("add, remove", x.remove(0, 2), 3);
        c.due("add, remove: not in", x.has(0, 2), 0);
        c.due("add, remove, add", x.add(0, 2), 4);
        c.due("add, remove, add: in", x.has(0, 2), 1);
    }

    private static void promise3RemoveOnlyItsPast() {
        CausalObjects x = new CausalObjects();
        x.add(0, 1);
        x.sync(0, 1);
        x.remove(1, 1);
        x.add(2, 1);
        c.due("remove elsewhere: still in at 0", x.has(0, 1), 1);
        x.sync(1, 0);
        c.due("remove arrives: not in at 0", x.has(0, 1), 0);
        x.sync(2, 0);
        c.due("concurrent add wins at 0", x.has(0, 1), 1);
        x.sync(1, 2);
        c.due("concurrent add wins at 2", x.has(2, 1), 1);
        x.remove(0, 1);
        x.sync(0, 2);
        c.due("remove that saw both", x.has(2, 1), 0);
    }

    private static void promise3RemoveOnlyItsElement() {
        CausalObjects x = new CausalObjects();
        for (int e = 0; e < 8; e++) {
            x.add(1, e);
        }
        x.assign(1, 5);
        x.count(1, 5);
        x.remove(1, 5);
        for (int e = 0; e < 8; e++) {
            c.due("remove 5: has " + e, x.has(1, e), e == 5 ? 0 : 1);
        }
        c.due("remove: register untouched", x.value(1, 0), 5);
        c.due("remove: counter untouched", x.total(1), 5);
    }

    private static void promise4Assign() {
        CausalObjects x = new CausalObjects();
        c.due("assign", x.assign(1, 70), 1);
        c.due("assign: values", x.values(1), 1);
        c.due("assign: value", x.value(1, 0), 70);
        c.due("assign: not elsewhere", x.values(0), 0);
        c.due("assign over", x.assign(1, -70), 2);
        c.due("assign over: values", x.values(1), 1);
        c.due("assign over: value", x.value(1, 0), -70);
        c.due("assign at 0, unseeing", x.assign(0, 1), 3);
        x.sync(0, 1);
        c.due("assign concurrent: values", x.values(1), 2);
        c.due("assign at 1, seeing both", x.assign(1, 2), 4);
        c.due("assign seeing both: values", x.values(1), 1);
        c.due("assign: set untouched", x.has(1, 2), 0);
        c.due("assign: counter untouched", x.total(1), 0);
        x.sync(1, 0);
        c.due("assign arrives: values", x.values(0), 1);
        c.due("assign arrives: value", x.value(0, 0), 2);
    }

    private static void promise5Count() {
        CausalObjects x = new CausalObjects();
        c.due("count", x.count(2, 10), 1);
        c.due("count less", x.count(2, -25), 2);
        c.due("count nothing", x.count(2, 0), 3);
        c.due("count: total", x.total(2), -15);
        c.due("count: not elsewhere", x.total(1), 0);
        c.due("count: known", x.known(2, 2), 3);
        c.due("count: set untouched", x.has(2, 2), 0);
        c.due("count: register untouched", x.values(2), 0);
    }

    private static void promise6Reset() {
        CausalObjects x = new CausalObjects();
        c.due("reset of nothing", x.reset(0), 1);
        x.add(0, 0);
        x.add(0, 7);
        x.assign(0, 3);
        x.count(0, 4);
        c.due("reset", x.reset(0), 6);
        c.due("reset: has 0", x.has(0, 0), 0);
        c.due("reset: has 7", x.has(0, 7), 0);
        c.due("reset: values", x.values(0), 0);
        c.due("reset: value", x.value(0, 0), 0);
        c.due("reset: total", x.total(0), 0);
        c.due("reset: all still known", x.known(0, 0), 6);
        x.add(0, 7);
        x.assign(0, 8);
        x.count(0, 9);
        c.due("after reset: has", x.has(0, 7), 1);
        c.due("after reset: value", x.value(0, 0), 8);
        c.due("after reset: total", x.total(0), 9);
    }

    private static void promise6ResetOnlyItsPast() {
        CausalObjects x = new CausalObjects();
        x.add(0, 6);
        x.assign(0, 11);
        x.count(0, 100);
        x.reset(1);
        x.sync(1, 0);
        c.due("unseeing reset: has", x.has(0, 6), 1);
        c.due("unseeing reset: value", x.value(0, 0), 11);
        c.due("unseeing reset: total", x.total(0), 100);
        x.sync(0, 2);
        x.reset(2);
        c.due("reset elsewhere: has", x.has(0, 6), 1);
        c.due("reset elsewhere: values", x.values(0), 1);
        c.due("reset elsewhere: total", x.total(0), 100);
        x.add(0, 6);
        x.count(0, 1);
        c.due("reset arrives", x.deliver(2, 0), 0);
        c.due("reset arrives: later add stays", x.has(0, 6), 1);
        c.due("reset arrives: values", x.values(0), 0);
        c.due("reset arrives: later count stays", x.total(0), 1);
    }

    private static int make(CausalObjects x, int sort, int replica, int detail) {
        switch (sort) {
            case 0: return x.add(replica, detail);
            case 1: return x.remove(replica, detail);
            case 2: return x.assign(replica, detail);
            case 3: return x.count(replica, detail);
            default: return x.reset(replica);
        }
    }

    private static void promises2To6AtMost48Changes() {
        for (int filler = 0; filler < 5; filler++) {
            CausalObjects x = new CausalObjects();
            x.add(0, 1);
            x.assign(1, 2);
            x.count(2, 3);
            for (int n = 4; n <= 48; n++) {
                c.due("change " + n + " of sort " + filler, make(x, filler, n % 3, 5), n);
            }
            int[] before = picture(x);
            for (int sort = 0; sort < 5; sort++) {
                for (int replica = 0; replica < 3; replica++) {
                    c.due("change 49 of sort " + sort, make(x, sort, replica, 1), -1);
                }
            }
            samePicture("49th change refused", before, picture(x));
            c.due("full: sync goes on", x.sync(0, 1), 0);
            c.due("full: known goes on", x.known(1, 0), 16);
            c.due("full: still refused", x.add(1, 0), -1);
        }
    }

    private static void promises2To6WrongReplica() {
        CausalObjects x = scene();
        int[] before = picture(x);
        for (int wrong : Inputs.NO_REPLICAS) {
            for (int sort = 0; sort < 5; sort++) {
                c.due("sort " + sort + " at " + wrong, make(x, sort, wrong, 1), -1);
            }
        }
        samePicture("changes at no replica", before, picture(x));
        c.due("refused changes are not counted", x.add(0, 0), 7);
    }

    private static void promise7Deliver() {
        CausalObjects x = new CausalObjects();
        x.count(0, 1);
        x.count(1, 10);
        x.count(0, 100);
        c.due("deliver oldest", x.deliver(0, 2), 0);
        c.due("deliver oldest: total", x.total(2), 1);
        c.due("deliver next", x.deliver(0, 2), 0);
        c.due("deliver next: total", x.total(2), 101);
        c.due("deliver: none left", x.deliver(0, 2), -1);
        c.due("deliver: none left, total", x.total(2), 101);
        c.due("deliver: from knows no more", x.known(0, 1), 0);
        c.due("deliver: other origin", x.deliver(1, 2), 0);
        c.due("deliver: other origin, total", x.total(2), 111);
        c.due("deliver: 2 made none", x.deliver(2, 0), -1);
        c.due("deliver: a new one", x.count(0, 1000), 4);
        c.due("deliver: the new one", x.deliver(0, 2), 0);
        c.due("deliver: the new one, total", x.total(2), 1111);
    }

    private static void promise7DeliverPastMissing() {
        CausalObjects x = new CausalObjects();
        x.count(0, 1);
        x.count(1, 10);
        x.sync(0, 1);
        x.count(1, 100);
        c.due("first of 1 saw nothing", x.deliver(1, 2), 0);
        c.due("second of 1 saw 0's", x.deliver(1, 2), -2);
        c.due("-2 again", x.deliver(1, 2), -2);
        c.due("-2 changes nothing", x.total(2), 10);
        c.due("-2 changes nothing", x.known(2, 1), 1);
        c.due("-2 changes nothing", x.known(2, 0), 0);
        c.due("0's change", x.deliver(0, 2), 0);
        c.due("now the second of 1", x.deliver(1, 2), 0);
        c.due("all there", x.total(2), 111);
        c.due("0 has its own", x.deliver(1, 0), 0);
        c.due("0 has its own", x.deliver(1, 0), 0);
        c.due("0: none left", x.deliver(1, 0), -1);
    }

    private static void promise7DeliverFromItself() {
        CausalObjects x = new CausalObjects();
        for (int replica = 0; replica < 3; replica++) {
            x.add(replica, 1);
            x.add(replica, 2);
        }
        for (int replica = 0; replica < 3; replica++) {
            c.due("deliver to itself", x.deliver(replica, replica), -1);
            c.due("deliver to itself: known", x.known(replica, replica), 2);
        }
    }

    private static void promise7DeliverSkipsWhatIsKnown() {
        CausalObjects x = new CausalObjects();
        x.count(0, 1);
        x.count(0, 2);
        x.sync(0, 1);
        x.count(0, 4);
        c.due("deliver after sync", x.deliver(0, 1), 0);
        c.due("deliver after sync: total", x.total(1), 7);
        x.sync(1, 2);
        c.due("known by way of 1", x.deliver(0, 2), -1);
    }

    private static void promise7DeliverWrongReplica() {
        CausalObjects x = scene();
        int[] before = picture(x);
        for (int wrong : Inputs.NO_REPLICAS) {
            c.due("deliver from " + wrong, x.deliver(wrong, 0), -1);
            c.due("deliver to " + wrong, x.deliver(0, wrong), -1);
            c.due("deliver both " + wrong, x.deliver(wrong, wrong), -1);
        }
        samePicture("deliver refused", before, picture(x));
    }

    private static void promise8Sync() {
        CausalObjects x = new CausalObjects();
        x.add(0, 1);
        x.count(0, 2);
        x.count(1, 3);
        c.due("sync", x.sync(0, 1), 0);
        c.due("sync: has", x.has(1, 1), 1);
        c.due("sync: total", x.total(1), 5);
        c.due("sync: keeps its own", x.known(1, 1), 1);
        c.due("sync: one way", x.known(0, 1), 0);
        c.due("sync: one way, total", x.total(0), 2);
        c.due("sync again", x.sync(0, 1), 0);
        c.due("sync again: total", x.total(1), 5);
        c.due("sync with itself", x.sync(1, 1), 0);
        c.due("sync with itself: total", x.total(1), 5);
        c.due("sync from one that knows none", x.sync(2, 1), 0);
        c.due("sync from one that knows none: total", x.total(1), 5);
    }

    private static void promise8SyncPassesOnThirdReplica() {
        CausalObjects x = new CausalObjects();
        x.count(0, 1);
        x.sync(0, 1);
        x.count(0, 2);
        c.due("sync third", x.sync(1, 2), 0);
        c.due("sync third: what 1 knew of 0", x.known(2, 0), 1);
        c.due("sync third: total", x.total(2), 1);
    }

    private static void promise8SyncWrongReplica() {
        CausalObjects x = scene();
        int[] before = picture(x);
        for (int wrong : Inputs.NO_REPLICAS) {
            c.due("sync from " + wrong, x.sync(wrong, 0), -1);
            c.due("sync to " + wrong, x.sync(0, wrong), -1);
            c.due("sync both " + wrong, x.sync(wrong, wrong), -1);
        }
        samePicture("sync refused", before, picture(x));
    }

    private static void promise9Has() {
        CausalObjects x = new CausalObjects();
        x.add(0, 4);
        x.add(0, 4);
        c.due("has: 1 though added twice", x.has(0, 4), 1);
        c.due("has: masked up", x.has(0, 12), 1);
        c.due("has: masked below", x.has(0, -4), 1);
        c.due("has: masked to another", x.has(0, 13), 0);
        c.due("has: elsewhere", x.has(1, 4), 0);
        for (int wrong : Inputs.NO_REPLICAS) {
            c.due("has at " + wrong, x.has(wrong, 4), -1);
        }
    }

    private static void promise10Values() {
        CausalObjects x = new CausalObjects();
        x.assign(0, 6);
        x.assign(1, 6);
        x.assign(2, 6);
        x.sync(0, 1);
        c.due("values: equal ones both", x.values(1), 2);
        x.sync(2, 1);
        c.due("values: equal ones all", x.values(1), 3);
        c.due("values: one at 0", x.values(0), 1);
        for (int wrong : Inputs.NO_REPLICAS) {
            c.due("values at " + wrong, x.values(wrong), -1);
        }
    }

    private static void promise11Value() {
        int[][] orders = {{1, 2, 3}, {1, 3, 2}, {2, 1, 3}, {2, 3, 1}, {3, 1, 2}, {3, 2, 1}};
        int[][] triples = {
            {-5, 0, 5}, {4, 4, 9}, {4, 9, 9}, {7, 7, 7}, {Integer.MIN_VALUE, -1, Integer.MAX_VALUE},
            {Integer.MIN_VALUE, Integer.MIN_VALUE, Integer.MAX_VALUE}, {Integer.MIN_VALUE, 0, 1}};
        for (int[] triple : triples) {
            for (int[] order : orders) {
                CausalObjects x = new CausalObjects();
                for (int replica = 0; replica < 3; replica++) {
                    x.assign(replica, triple[order[replica] - 1]);
                }
                x.sync(0, 2);
                x.sync(1, 2);
                c.due("value: values", x.values(2), 3);
                for (int place = 0; place < 3; place++) {
                    c.due("value at place " + place, x.value(2, place), triple[place]);
                }
                c.due("value at place 3", x.value(2, 3), 0);
            }
        }
    }

    private static void promise11ValueNoSuchPlace() {
        CausalObjects x = new CausalObjects();
        x.assign(0, 42);
        x.assign(1, 43);
        x.sync(1, 0);
        int[] noPlaces = {-1, -2, 2, 3, 48, 64, Integer.MIN_VALUE, Integer.MAX_VALUE};
        for (int place : noPlaces) {
            c.due("value at place " + place, x.value(0, place), 0);
        }
        for (int wrong : Inputs.NO_REPLICAS) {
            c.due("value at replica " + wrong, x.value(wrong, 0), 0);
        }
        c.due("value of an empty register", x.value(2, 0), 0);
    }

    private static void promise12Total() {
        CausalObjects x = new CausalObjects();
        x.count(0, Integer.MAX_VALUE);
        x.count(0, 1);
        c.due("total wraps up", x.total(0), Integer.MIN_VALUE);
        x.count(0, -1);
        c.due("total wraps down", x.total(0), Integer.MAX_VALUE);
        x.count(1, Integer.MIN_VALUE);
        x.count(1, Integer.MIN_VALUE);
        c.due("total wraps to 0", x.total(1), 0);
        for (int wrong : Inputs.NO_REPLICAS) {
            c.due("total at " + wrong, x.total(wrong), 0);
        }
    }

    private static void promise13Known() {
        CausalObjects x = new CausalObjects();
        x.add(0, 1);
        x.remove(0, 1);
        x.assign(0, 1);
        x.count(1, 1);
        x.reset(1);
        x.sync(0, 1);
        x.deliver(0, 2);
        int[][] want = {{3, 0, 0}, {3, 2, 0}, {1, 0, 0}};
        for (int replica = 0; replica < 3; replica++) {
            for (int origin = 0; origin < 3; origin++) {
                c.due("known(" + replica + ", " + origin + ")", x.known(replica, origin), want[replica][origin]);
            }
        }
        for (int wrong : Inputs.NO_REPLICAS) {
            c.due("known at " + wrong, x.known(wrong, 0), -1);
            c.due("known of " + wrong, x.known(0, wrong), -1);
            c.due("known both " + wrong, x.known(wrong, wrong), -1);
        }
    }

    private static void promises9To13ChangeNothing() {
        CausalObjects x = scene();
        int[] first = picture(x);
        samePicture("questions change nothing", first, picture(x));
        c.due("questions make no change", x.reset(0), 7);
    }

    /** The 48th change is where a state that is one too small, or a 32-bit one, would show. */
    private static void lastChangeCounts() {
        CausalObjects x = new CausalObjects();
        for (int n = 1; n <= 47; n++) {
            c.due("count " + n, x.count(0, 1), n);
        }
        c.due("47 counted", x.total(0), 47);
        for (int n = 1; n <= 40; n++) {
            c.due("deliver " + n, x.deliver(0, 1), 0);
            c.due("delivered " + n, x.total(1), n);
        }
        c.due("the 48th", x.reset(1), 48);
        c.due("the 48th: total", x.total(1), 0);
        x.sync(1, 0);
        c.due("the 48th saw 40", x.total(0), 7);
        c.due("the 48th is not due at 2 yet", x.deliver(1, 2), -2);
        x.sync(0, 2);
        c.due("the 48th came along", x.deliver(1, 2), -1);
        c.due("the 48th came along: total", x.total(2), 7);
        c.due("all known", x.known(2, 0) + x.known(2, 1), 48);
    }

    /** In whatever order replica 2 gets to know the same changes, it shows the same. */
    private static void termsShownDependsOnWhatIsKnown() {
        int ways = 1 << 7;
        for (int way = 0; way < ways; way++) {
            CausalObjects x = twoHistories();
            for (int n = 0; n < 7; n++) {
                x.deliver(way >> n & 1, 2);
            }
            for (int n = 0; n < 7; n++) {
                x.deliver(0, 2);
                x.deliver(1, 2);
            }
            c.due("any order: known of 0", x.known(2, 0), 5);
            c.due("any order: known of 1", x.known(2, 1), 3);
            c.due("any order: the add that no remove and no reset had seen", x.has(2, 1), 1);
            c.due("any order: the assign that the reset had not seen", x.values(2), 1);
            c.due("any order: its value", x.value(2, 0), 4);
            c.due("any order: the count that the reset had not seen", x.total(2), 7);
            CausalObjects y = twoHistories();
            y.sync(way & 1, 2);
            y.sync(~way & 1, 2);
            samePicture("one by one or all at once", picture(x), picture(y));
        }
    }

    private static CausalObjects twoHistories() {
        CausalObjects x = new CausalObjects();
        x.add(0, 1);
        x.count(0, 5);
        x.sync(0, 1);
        x.remove(1, 1);
        x.assign(1, 9);
        x.reset(1);
        x.add(0, 1);
        x.assign(0, 4);
        x.count(0, 7);
        return x;
    }

    /** Six changes, of all sorts, that are known here and there. */
    private static CausalObjects scene() {
        CausalObjects x = new CausalObjects();
        x.add(0, 1);
        x.assign(1, 21);
        x.count(2, 31);
        x.sync(0, 1);
        x.remove(1, 1);
        x.add(2, 5);
        x.reset(0);
        return x;
    }

    private static int[] picture(CausalObjects x) {
        int[] seen = new int[3 * 16];
        int n = 0;
        for (int replica = 0; replica < 3; replica++) {
            for (int element = 0; element < 8; element++) {
                seen[n++] = x.has(replica, element);
            }
            for (int place = 0; place < 3; place++) {
                seen[n++] = x.value(replica, place);
            }
            for (int origin = 0; origin < 3; origin++) {
                seen[n++] = x.known(replica, origin);
            }
            seen[n++] = x.values(replica);
            seen[n++] = x.total(replica);
        }
        return seen;
    }

    private static void samePicture(String what, int[] before, int[] after) {
        for (int i = 0; i < before.length; i++) {
            c.due(what + ", answer " + i, after[i], before[i]);
        }
    }
}

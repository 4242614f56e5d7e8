import java.util.List;
import java.util.Random;

/**
 * A new CausalObjects with a Model beside it. What is called here is called of both, and the answers must agree;
 * what must change nothing is called of the class alone, so that the model tells how things go on without it.
 */
final class Pair {
    static final int KINDS = 12;

    /** All methods of the document: five that make changes, two that pass them on, five that ask. */
    static final List<String> METHODS = List.of(
        "add", "remove", "assign", "count", "reset", "deliver", "sync", "has", "values", "value", "total", "known");

    private final Checks c;
    private final CausalObjects x = new CausalObjects();
    private final Model model = new Model();
    private int calls = 0;

    Pair(Checks c) {
        this.c = c;
    }

    /** A pair with a history of so many changes, known here and there; each kind of history is always the same. */
    static Pair with(Checks c, int changes, int kind) {
        Pair pair = new Pair(c);
        Random random = new Random(kind);
        // The more seldom the changes are passed on, the more of them are still to be delivered in the end.
        int passedOn = kind % 4 * 25;
        for (int i = 0; i < changes; i++) {
            boolean resets = random.nextInt(12) == 0;
            pair.call(resets ? "reset" : METHODS.get(random.nextInt(4)), random.nextInt(3), random.nextInt(40) - 20);
            if (random.nextInt(100) < passedOn) {
                pair.call(random.nextInt(2) == 0 ? "sync" : "deliver", random.nextInt(3), random.nextInt(3));
            }
        }
        return pair;
    }

    static int callOf(CausalObjects x, String method, int a, int b) {
        switch (method) {
            case "add": return x.add(a, b);
            case "remove": return x.remove(a, b);
            case "assign": return x.assign(a, b);
            case "count": return x.count(a, b);
            case "reset": return x.reset(a);
            case "deliver": return x.deliver(a, b);
            case "sync": return x.sync(a, b);
            case "has": return x.has(a, b);
            case "values": return x.values(a);
            case "value": return x.value(a, b);
            case "total": return x.total(a);
            case "known": return x.known(a, b);
            default: throw new IllegalArgumentException(method);
        }
    }

    private int callOfModel(String method, int a, int b) {
        switch (method) {
            case "add": return model.make(Model.Sort.ADD, a, b);
            case "remove": return model.make(Model.Sort.REMOVE, a, b);
            case "assign": return model.make(Model.Sort.ASSIGN, a, b);
            case "count": return model.make(Model.Sort.COUNT, a, b);
            case "reset": return model.make(Model.Sort.RESET, a, 0);
            case "deliver": return model.deliver(a, b);
            case "sync": return model.sync(a, b);
            case "has": return model.has(a, b);
            case "values": return model.values(a);
            case "value": return model.value(a, b);
            case "total": return model.total(a);
            case "known": return model.known(a, b);
            default: throw new IllegalArgumentException(method);
        }
    }

    /** Calls both, and answers what is due. */
    int call(String method, int a, int b) {
        int due = callOfModel(method, a, b);
        callAlone(method, a, b, due);
        return due;
    }

    /** Calls the class alone; the model never hears of it. */
    void changesNothing(String method, int a, int b, int due) {
        callAlone(method, a, b, due);
    }

    private void callAlone(String method, int a, int b, int due) {
        calls++;
        if (calls > Inputs.MOST_CALLS) {
            throw new IllegalStateException("the test itself makes more calls than the document allows");
        }
        c.due("call " + calls + ", " + method + "(" + a + ", " + b + ")", callOf(x, method, a, b), due);
    }

    /** All that the replicas show and know. */
    void sameAnswers() {
        for (int replica = 0; replica < 3; replica++) {
            for (int element = 0; element < 8; element++) {
                call("has", replica, element);
            }
            for (int place = -1; place < 4; place++) {
                call("value", replica, place);
            }
            for (int origin = 0; origin < 3; origin++) {
                call("known", replica, origin);
            }
            call("values", replica, 0);
            call("total", replica, 0);
        }
    }

    /** What cannot be asked for (the pasts, and how many changes were made) shows in how things go on. */
    void sameFromHereOn() {
        sameAnswers();
        call("count", 1, 1 << 20);
        for (int round = 0; round < 4; round++) {
            for (int way = 0; way < 9; way++) {
                passOn(way / 3, way % 3);
            }
        }
        call("sync", 0, 1);
        call("sync", 1, 2);
        call("sync", 2, 0);
        sameAnswers();
    }

    private void passOn(int from, int to) {
        for (int n = 0; n < Inputs.MOST_CHANGES && call("deliver", from, to) == 0; n++) {
            if (n % 8 == 0) {
                call("total", to, 0);
            }
        }
    }

    /** Asks until so many calls have been made in all. */
    void askUntil(int wanted) {
        for (int i = 0; calls < wanted; i++) {
            call(METHODS.get(7 + i % 5), i % 3, i % 8 % 3);
        }
    }

    /** Calls after the last one that the document speaks of: the answers are free. */
    void free(String method, int a, int b) {
        callOf(x, method, a, b);
    }
}

import java.util.Random;

/** Long mixed runs, the same ones each time, in which every answer must be the model's. */
public final class ModelTest {
    private static final int RUNS = 3000;
    private static final int CALLS = 512;
    private static final int[] EDGES = {0, 1, -1, Integer.MIN_VALUE, Integer.MAX_VALUE};
    private static final Checks c = new Checks();

    public static void main(String[] args) {
        for (int run = 0; run < RUNS && c.wrong() == 0; run++) {
            compare(run);
        }
        c.end();
    }

    private static void compare(int run) {
        Random random = new Random(run);
        CausalObjects x = new CausalObjects();
        Model model = new Model();
        // Runs differ in how often they change, pass on and reset, so that few and many values stand side by side.
        int changing = 5 + random.nextInt(40);
        int resetting = random.nextInt(4) * 5;
        int syncing = random.nextInt(50);
        for (int call = 0; call < CALLS; call++) {
            String where = "run " + run + ", call " + call;
            int a = replica(random);
            int b = replica(random);
            int dice = random.nextInt(100);
            if (dice < changing) {
                change(where, x, model, random, a, resetting);
            } else if (dice < 70) {
                passOn(where, x, model, a, b, random.nextInt(100) < syncing);
            } else {
                ask(where, x, model, random, a, b);
            }
        }
    }

    private static int replica(Random random) {
        return random.nextInt(40) == 0 ? random.nextInt(9) - 3 : random.nextInt(3);
    }

    private static int number(Random random) {
        switch (random.nextInt(4)) {
            case 0: return EDGES[random.nextInt(EDGES.length)];
            case 1: return random.nextInt();
            default: return random.nextInt(6) - 2;
        }
    }

    private static void change(String where, CausalObjects x, Model model, Random random, int a, int resetting) {
        int n = number(random);
        if (random.nextInt(100) < resetting) {
            c.due(where + " reset(" + a + ")", x.reset(a), model.make(Model.Sort.RESET, a, 0));
            return;
        }
        String of = "(" + a + ", " + n + ")";
        switch (random.nextInt(4)) {
            case 0: c.due(where + " add" + of, x.add(a, n), model.make(Model.Sort.ADD, a, n)); break;
            case 1: c.due(where + " remove" + of, x.remove(a, n), model.make(Model.Sort.REMOVE, a, n)); break;
            case 2: c.due(where + " assign" + of, x.assign(a, n), model.make(Model.Sort.ASSIGN, a, n)); break;
            default: c.due(where + " count" + of, x.count(a, n), model.make(Model.Sort.COUNT, a, n));
        }
    }

    private static void passOn(String where, CausalObjects x, Model model, int a, int b, boolean all) {
        String of = "(" + a + ", " + b + ")";
        if (all) {
            c.due(where + " sync" + of, x.sync(a, b), model.sync(a, b));
        } else {
            c.due(where + " deliver" + of, x.deliver(a, b), model.deliver(a, b));
        }
    }

    private static void ask(String where, CausalObjects x, Model model, Random random, int a, int b) {
        int n = number(random);
        String of = "(" + a + ", " + n + ")";
        switch (random.nextInt(5)) {
            case 0: c.due(where + " has" + of, x.has(a, n), model.has(a, n)); break;
            case 1: c.due(where + " values(" + a + ")", x.values(a), model.values(a)); break;
            case 2: c.due(where + " value" + of, x.value(a, n), model.value(a, n)); break;
            case 3: c.due(where + " total(" + a + ")", x.total(a), model.total(a)); break;
            default: c.due(where + " known(" + a + ", " + b + ")", x.known(a, b), model.known(a, b));
        }
    }
}

import java.util.ArrayList;
import java.util.List;
import java.util.Random;

/** All promises: long runs of calls, made from fixed seeds, on a PluginHost and on the Model, with the same answers. */
public final class ModelTest {
    private static final int RUNS = 20000;
    private static final int CALLS = 512;
    private static final int[] ODD = {-1, 4, 8, 255, Integer.MIN_VALUE, Integer.MAX_VALUE};
    private static final int[] VALUES = {0, 1, 2, 3, 5, -1, -3, 100, Integer.MIN_VALUE, Integer.MAX_VALUE};

    private final Random random;
    private final PluginHost host = new PluginHost();
    private final Model model = new Model();
    private final List<String> calls = new ArrayList<>();
    private boolean same = true;
    private static final int[] findings = new int[9];
    private static final int[] endings = new int[6];

    private ModelTest(long seed) {
        random = new Random(seed);
    }

    public static void main(String[] args) {
        for (int seed = 0; seed < RUNS; seed++) {
            ModelTest test = new ModelTest(seed);
            test.run();
            Check.due("run " + seed + " goes as in the model", test.same, true);
        }
        // A comparison that never gets as far as some answer would tell nothing about it.
        for (int i = 0; i < findings.length; i++) {
            Check.due("finding " + i + " came up " + findings[i] + " times, often enough", findings[i] >= 100, true);
        }
        for (int i = 0; i < endings.length; i++) {
            Check.due("ending " + i + " came up " + endings[i] + " times, often enough", endings[i] >= 100, true);
        }
        Check.end();
    }

    private void run() {
        while (same && calls.size() < CALLS - 130) {
            step(random.nextInt(20));
        }
        if (!same) {
            System.out.println(String.join("\n", calls.subList(Math.max(0, calls.size() - 150), calls.size())));
        }
    }

    private void step(int kind) {
        if (kind < 3) {
            submitPlugin();
        } else if (kind < 5) {
            addRule();
        } else if (kind == 5 && random.nextInt(2) == 0) {
            compare("unrule()", host.unrule(), model.unrule());
        } else if (kind == 6) {
            int a = part();
            int b = part();
            int c = part();
            compare("allows(" + a + ", " + b + ", " + c + ")", host.allows(a, b, c), model.allows(a, b, c));
        } else if (kind < 9) {
            openBox();
        } else if (kind == 9 && random.nextInt(3) == 0) {
            int x = index(4);
            compare("close(" + x + ")", host.close(x), model.close(x));
        } else if (kind == 10) {
            int p = index(3);
            compare("unload(" + p + ")", host.unload(p), model.unload(p));
        } else {
            callFunction();
        }
    }

    private void compare(String call, long got, long want) {
        calls.add(call + " answered " + got);
        if (got != want) {
            calls.add("but the model answered " + want);
            same = false;
        }
    }

    private void compare(String call, boolean got, boolean want) {
        compare(call, got ? 1 : 0, want ? 1 : 0);
    }

    private int index(int count) {
        return random.nextInt(12) == 0 ? ODD[random.nextInt(ODD.length)] : random.nextInt(count);
    }

    private int part() {
        return random.nextInt(20) == 0 ? ODD[random.nextInt(ODD.length)] : random.nextInt(3);
    }

    private void addRule() {
        int packed = random.nextInt(20) == 0 ? random.nextInt(30) - 10 : random.nextInt(8) | (random.nextInt(3) == 0 ? 0 : 1);
        int a = part();
        int b = part();
        int c = part();
        compare("rule(" + packed + ", " + a + ", " + b + ", " + c + ")", host.rule(packed, a, b, c), model.rule(packed, a, b, c));
    }

    private void openBox() {
        int p = index(3);
        int[] quotas = {2000, random.nextInt(2001), random.nextInt(40), random.nextInt(300), random.nextInt(10) - 5, 1995 + random.nextInt(10)};
        int quota = quotas[random.nextInt(quotas.length)];
        compare("open(" + p + ", " + quota + ")", host.open(p, quota), model.open(p, quota));
    }

    private void callFunction() {
        int x = index(4);
        int f = index(random.nextInt(3) + 1);
        int a = value();
        int b = value();
        int ending = host.call(x, f, a, b);
        endings[Math.floorMod(ending, 6)]++;
        compare("call(" + x + ", " + f + ", " + a + ", " + b + ")", ending, model.call(x, f, a, b));
        compare("result()", host.result(), model.result());
        compare("left(" + x + ")", host.left(x), model.left(x));
        int s = index(4);
        compare("peek(" + x + ", " + s + ")", host.peek(x, s), model.peek(x, s));
        compare("memory()", host.memory(), model.memory());
    }

    private int value() {
        return random.nextInt(4) == 0 ? random.nextInt() : VALUES[random.nextInt(VALUES.length)];
    }

    private void submitPlugin() {
        for (int b : new PluginMaker(random).make()) {
            compare("put(" + b + ")", host.put(b), model.put(b));
        }
        int finding = host.submit();
        findings[Math.floorMod(finding, 9)]++;
        compare("submit()", finding, model.submit());
        compare("place()", host.place(), model.place());
        compare("number()", host.number(), model.number());
        compare("wipe()", host.wipe(), model.wipe());
    }
}

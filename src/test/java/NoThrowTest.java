import java.util.List;
import java.util.Random;

/** No call throws or fails to end, whatever the arguments and however long an object is used; what it answers is free here. */
public final class NoThrowTest {
    private static final int OBJECTS = 20, CALLS = 50000;
    private static final int[] ODD = {Integer.MIN_VALUE, Integer.MIN_VALUE + 1, -256, -1, 8, 120, 255, 256, 2001, Integer.MAX_VALUE};

    private final Random random;
    private final PluginHost host = new PluginHost();
    private long answers = 0;

    private NoThrowTest(long seed) {
        random = new Random(seed);
    }

    public static void main(String[] args) {
        for (int seed = 0; seed < OBJECTS; seed++) {
            NoThrowTest test = new NoThrowTest(seed);
            for (int i = 0; i < CALLS; i++) {
                test.step();
            }
            Check.due("calls of object " + seed + " that answered", test.answers, CALLS);
        }
        Check.end();
    }

    private int any() {
        int kind = random.nextInt(40);
        return kind == 0 ? random.nextInt() : kind < 4 ? ODD[random.nextInt(ODD.length)] : random.nextInt(5);
    }

    private void step() {
        switch (random.nextInt(18)) {
            case 0: host.rule(any(), any(), any(), any()); break;
            case 1: host.unrule(); break;
            case 2: host.allows(any(), any(), any()); break;
            case 3: host.put(any()); break;
            case 4: host.wipe(); break;
            case 5: host.submit(); break;
            case 6: host.place(); break;
            case 7: host.number(); break;
            case 8: host.open(any(), random.nextInt(3) == 0 ? any() : random.nextInt(2001)); break;
            case 9: host.close(any()); break;
            case 10: host.unload(any()); break;
            case 11: host.result(); break;
            case 12: host.left(any()); break;
            case 13: host.peek(any(), any()); break;
            case 14: host.memory(); break;
            case 15: submitMade(); break;
            default: host.call(any(), any(), any(), any()); break;
        }
        answers++;
    }

    private void submitMade() {
        host.wipe();
        List<Integer> bytes = new PluginMaker(random).make();
        for (int b : bytes) {
            host.put(b);
        }
        // Without this most plugins with imports would be denied.
        host.rule(1, 0, 0, 0);
        host.submit();
    }
}

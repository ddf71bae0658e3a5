import java.math.BigInteger;

/** The edges of what the instructions do: signed bytes, ints that wrap, DIV, locals, the stack's room, the host's memory. */
public final class EdgeValueTest {
    private static final int PUSH = Plugins.PUSH, LOAD = Plugins.LOAD, STORE = Plugins.STORE, ADD = Plugins.ADD;
    private static final int SUB = Plugins.SUB, MUL = Plugins.MUL, DIV = Plugins.DIV, LESS = Plugins.LESS, DUP = Plugins.DUP;
    private static final int JZERO = Plugins.JZERO, CALL = Plugins.CALL, HOST = Plugins.HOST;
    private static final int GGET = Plugins.GGET, GSET = Plugins.GSET, RETURN = Plugins.RETURN;
    private static final int MIN = Integer.MIN_VALUE, MAX = Integer.MAX_VALUE;
    private static final int[] VALUES = {0, 1, -1, 2, 127, 128, -128, -129, 255, 256, 32768, 65536, MAX - 1, MAX, MIN, MIN + 1};

    public static void main(String[] args) {
        signedBytes();
        less();
        jumpsIfZero();
        parametersOfCalls();
        answersOfReturns();
        wrapping();
        leastByMinusOne();
        towardsZero();
        wholeValuesAreKept();
        localsInOrder();
        localsZeroAtFirst();
        localsOfEachActivation();
        roomForSix();
        emptyStackAtFirst();
        hostMemoryWraps();
        hostAnswers();
        Check.end();
    }

    private static void answers(String name, int[] plugin, int a, int b, int result) {
        Plugins.call(name, Plugins.hostWith(2000, plugin), 0, a, b, PluginHost.RETURNED, result);
    }

    private static void binary(int code, int first, int second, int want) {
        answers("instruction " + code, Plugins.single(2, 0, LOAD, 0, LOAD, 1, code, RETURN), first, second, want);
    }

    private static void signedBytes() {
        Check.sentence("b as a signed byte (200 is -56)");
        int[][] bytesAndValues = {{0, 0}, {1, 1}, {126, 126}, {127, 127}, {128, -128}, {129, -127}, {200, -56}, {254, -2}, {255, -1}};
        for (int[] row : bytesAndValues) {
            answers("PUSH " + row[0], Plugins.single(0, 0, PUSH, row[0], RETURN), 0, 0, row[1]);
        }
    }

    private static void less() {
        Check.sentence("1 if first < second, else 0");
        for (int first : VALUES) {
            for (int second : VALUES) {
                binary(LESS, first, second, (long) first - second < 0 ? 1 : 0);
            }
        }
    }

    private static void jumpsIfZero() {
        Check.sentence("takes an entry; on to the same place if it is 0");
        int[] plugin = Plugins.single(1, 0, PUSH, 40, LOAD, 0, JZERO, 3, PUSH, 1, RETURN, RETURN);
        int[] next = Plugins.single(1, 0, PUSH, 40, LOAD, 0, JZERO, 0, RETURN);
        for (int value : VALUES) {
            answers("JZERO on " + value, plugin, value, 0, value == 0 ? 40 : 1);
            answers("JZERO on " + value + " to the next", next, value, 0, 40);
        }
    }

    private static void parametersOfCalls() {
        Check.sentence("the function b with its parameters as topmost entries, the last on top");
        int[] none = Plugins.function(0, 1, LOAD, 0, RETURN);
        int[] one = Plugins.function(1, 1, LOAD, 0, LOAD, 1, ADD, RETURN);
        int[] two = Plugins.function(2, 1, LOAD, 0, PUSH, 10, MUL, LOAD, 1, ADD, LOAD, 2, ADD, RETURN);
        int[] weigh = {PUSH, 100, MUL, ADD, RETURN};
        int[][] codes = {{PUSH, 1, PUSH, 2, CALL, 1}, {PUSH, 1, PUSH, 2, CALL, 2}, {PUSH, 1, PUSH, 2, PUSH, 3, CALL, 3}};
        // Of the entries below, the two topmost are weighed: the upper one by 100.
        int[] results = {2 + 0 * 100, 1 + 2 * 100, 1 + 23 * 100};
        for (int i = 0; i < 3; i++) {
            int[] code = java.util.Arrays.copyOf(codes[i], codes[i].length + weigh.length);
            System.arraycopy(weigh, 0, code, codes[i].length, weigh.length);
            answers("CALL with " + i + " parameters", Plugins.plugin(Plugins.NO_IMPORTS, Plugins.function(0, 0, code), none, one, two),
                0, 0, results[i]);
        }
    }

    private static void answersOfReturns() {
        Check.sentence("the topmost entry is the answer");
        for (int entries = 1; entries <= 6; entries++) {
            int[] code = new int[2 * entries + 1];
            for (int i = 0; i < entries; i++) {
                code[2 * i + 1] = i + 1;
            }
            code[2 * entries] = RETURN;
            answers("RETURN with " + entries, Plugins.single(0, 0, code), 0, 0, entries);
            // What the called one leaves on its stack doesn't reach the caller's.
            answers("CALL of it", Plugins.plugin(Plugins.NO_IMPORTS, Plugins.function(0, 0, PUSH, 50, CALL, 1, SUB, RETURN),
                Plugins.function(0, 0, code)), 0, 0, 50 - entries);
        }
    }

    private static void wrapping() {
        Check.sentence("All values are ints of 32 bits that wrap");
        binary(ADD, MAX, 1, MIN);
        binary(ADD, MIN, -1, MAX);
        binary(ADD, MAX, MAX, -2);
        binary(ADD, MIN, MIN, 0);
        binary(SUB, MIN, 1, MAX);
        binary(SUB, MAX, -1, MIN);
        binary(SUB, 0, MIN, MIN);
        binary(SUB, MIN, MAX, 1);
        binary(MUL, MIN, -1, MIN);
        binary(MUL, MAX, 2, -2);
        binary(MUL, MAX, MAX, 1);
        binary(MUL, 65536, 65536, 0);
        binary(MUL, 46341, 46341, 46341 * 46341);
        for (int first : VALUES) {
            for (int second : VALUES) {
                BigInteger one = BigInteger.valueOf(first), other = BigInteger.valueOf(second);
                binary(ADD, first, second, one.add(other).intValue());
                binary(SUB, first, second, one.subtract(other).intValue());
                binary(MUL, first, second, one.multiply(other).intValue());
            }
        }
    }

    private static void leastByMinusOne() {
        Check.sentence("-2147483648 / -1 is -2147483648");
        binary(DIV, MIN, -1, MIN);
        binary(DIV, MIN + 1, -1, MAX);
        binary(DIV, MAX, -1, MIN + 1);
        binary(DIV, MIN, 1, MIN);
        binary(DIV, MIN, MIN, 1);
        binary(DIV, -1, MIN, 0);
    }

    private static void towardsZero() {
        Check.sentence("DIV cuts off towards zero");
        binary(DIV, 7, 2, 3);
        binary(DIV, -7, 2, -3);
        binary(DIV, 7, -2, -3);
        binary(DIV, -7, -2, 3);
        binary(DIV, 1, 2, 0);
        binary(DIV, -1, 2, 0);
        binary(DIV, MAX, MIN, 0);
        binary(DIV, MIN, MAX, -1);
        binary(DIV, 0, 5, 0);
        binary(DIV, 0, -5, 0);
    }

    private static void wholeValuesAreKept() {
        Check.sentence("All values are ints of 32 bits: parameters, locals, statics, entries and answers");
        int[] inner = Plugins.function(2, 1, LOAD, 1, STORE, 2, LOAD, 2, GSET, 3, GGET, 3, DUP, Plugins.POP, RETURN);
        int[] outer = Plugins.function(2, 0, LOAD, 0, LOAD, 1, CALL, 1, RETURN);
        for (int value : VALUES) {
            PluginHost host = Plugins.hostWith(100, Plugins.plugin(Plugins.NO_IMPORTS, outer, inner));
            Plugins.call("through all of them", host, 0, 9, value, PluginHost.RETURNED, value);
            Check.due("peek(0, 3)", host.peek(0, 3), value);
        }
    }

    private static void localsInOrder() {
        Check.sentence("Locals are the parameters, then the further locals");
        for (int parameters = 0; parameters <= 2; parameters++) {
            for (int further = 0; further <= 3; further++) {
                for (int local = 0; local < parameters + further; local++) {
                    int want = local >= parameters ? 0 : local == 0 ? 71 : 72;
                    String name = "local " + local + " of " + parameters + " and " + further;
                    answers(name, Plugins.single(parameters, further, LOAD, local, RETURN), 71, 72, want);
                    answers(name + ", stored", Plugins.single(parameters, further, PUSH, 9, STORE, local, LOAD, local, RETURN), 71, 72, 9);
                }
            }
        }
    }

    private static void localsZeroAtFirst() {
        Check.sentence("0 at first");
        int[] sum = {LOAD, 0, LOAD, 1, ADD, LOAD, 2, ADD, PUSH, 9, STORE, 0, PUSH, 9, STORE, 1, PUSH, 9, STORE, 2, RETURN};
        PluginHost host = Plugins.hostWith(2000, Plugins.plugin(Plugins.NO_IMPORTS, Plugins.function(0, 3, sum),
            Plugins.function(0, 0, CALL, 0, CALL, 0, ADD, RETURN),
            Plugins.function(2, 3, LOAD, 4, PUSH, 8, STORE, 2, PUSH, 8, STORE, 4, CALL, 1, ADD, RETURN),
            Plugins.function(0, 0, PUSH, 1, DUP, CALL, 2, PUSH, 1, DUP, CALL, 2, ADD, RETURN)));
        for (int round = 0; round < 3; round++) {
            Plugins.call("in a call", host, 0, 5, 5, PluginHost.RETURNED, 0);
            Plugins.call("in two calls from within", host, 1, 5, 5, PluginHost.RETURNED, 0);
            Plugins.call("in calls from further within", host, 2, 5, 5, PluginHost.RETURNED, 0);
            Plugins.call("in five locals, twice from within", host, 3, 5, 5, PluginHost.RETURNED, 0);
        }
    }

    /** Every other activation has five locals, all set, which it adds up when the activations after it have ended. */
    private static void localsOfEachActivation() {
        Check.sentence("Locals are an activation's own");
        int[] down = {LOAD, 0, STORE, 2, LOAD, 0, STORE, 3, PUSH, 100, STORE, 4, LOAD, 0, LOAD, 1, CALL, 1,
            LOAD, 0, ADD, LOAD, 2, ADD, LOAD, 3, ADD, LOAD, 4, ADD, LOAD, 1, ADD, RETURN};
        int[] next = {LOAD, 1, JZERO, 13, LOAD, 0, PUSH, 1, ADD, LOAD, 1, PUSH, 1, SUB, CALL, 0, RETURN, PUSH, 0, RETURN};
        PluginHost host = Plugins.hostWith(2000, Plugins.plugin(Plugins.NO_IMPORTS,
            Plugins.function(2, 3, down), Plugins.function(2, 0, next)));
        Plugins.call("two activations", host, 0, 10, 0, PluginHost.RETURNED, 3 * 10 + 100);
        Plugins.call("four activations", host, 0, 10, 1, PluginHost.RETURNED, 3 * (10 + 11) + 200 + 1);
        Plugins.call("six activations", host, 0, 10, 2, PluginHost.RETURNED, 3 * (10 + 11 + 12) + 300 + 2 + 1);
        Plugins.call("seven activations", host, 0, 10, 3, PluginHost.DEEP, 0);
    }

    private static void roomForSix() {
        Check.sentence("An activation's stack has room for 6 entries.");
        int[] six = {PUSH, 1, PUSH, 2, PUSH, 3, PUSH, 4, PUSH, 5, PUSH, 6, SUB, SUB, SUB, SUB, SUB, RETURN};
        answers("six entries", Plugins.single(0, 0, six), 0, 0, 1 - (2 - (3 - (4 - (5 - 6)))));
        // Each activation holds five entries and hands a sixth on; the last one has six of its own.
        int[] full = {LOAD, 0, JZERO, 18, LOAD, 0, DUP, DUP, DUP, DUP, LOAD, 0, CALL, 1, CALL, 0,
            ADD, ADD, ADD, ADD, ADD, RETURN, PUSH, 1, DUP, DUP, DUP, DUP, DUP, ADD, ADD, ADD, ADD, ADD, RETURN};
        PluginHost host = Plugins.hostWith(2000, Plugins.plugin(Plugins.NO_IMPORTS, Plugins.function(1, 0, full),
            Plugins.function(1, 0, LOAD, 0, PUSH, 1, SUB, RETURN)));
        Plugins.call("six activations with full stacks", host, 0, 5, 0, PluginHost.RETURNED, 5 * (5 + 4 + 3 + 2 + 1) + 6);
    }

    /** What an activation left on its stack, however it ended, is not there for the next one. */
    private static void emptyStackAtFirst() {
        Check.sentence("An activation's stack is its own");
        int[] divide = {PUSH, 1, PUSH, 2, PUSH, 3, PUSH, 4, PUSH, 5, LOAD, 0, DIV, ADD, ADD, ADD, ADD, RETURN};
        int[] leave = {PUSH, 1, DUP, DUP, DUP, DUP, DUP, RETURN};
        PluginHost host = Plugins.hostWith(2000, Plugins.plugin(Plugins.NO_IMPORTS, Plugins.function(1, 0, divide),
            Plugins.function(0, 0, leave), Plugins.function(0, 0, CALL, 1, CALL, 1, ADD, PUSH, 1, CALL, 0, ADD, RETURN)));
        for (int i = 0; i < 8; i++) {
            Plugins.call("ends with entries left", host, 0, 0, 0, PluginHost.DIVIDE, 0);
            Plugins.call("starts without them", host, 0, 1, 0, PluginHost.RETURNED, 15);
            Plugins.call("answers with entries left", host, 1, 0, 0, PluginHost.RETURNED, 1);
            Plugins.call("calls those", host, 2, 0, 0, PluginHost.RETURNED, 17);
        }
    }

    private static BigInteger asked(BigInteger memory, int v, int a, int b, int c) {
        return memory.multiply(BigInteger.valueOf(33)).add(BigInteger.valueOf(v).multiply(BigInteger.valueOf(512)))
            .add(BigInteger.valueOf(64 * a + 8 * b + c));
    }

    private static void hostMemoryWraps() {
        Check.sentence("the host's memory h (a long, wrapping) becomes h * 33 + v * 512 + (64 a + 8 b + c), v taken as a long");
        int[][] imports = {{0, 0, 0}, {7, 7, 7}, {1, 0, 0}, {0, 7, 1}};
        int[][] functions = new int[4][];
        for (int i = 0; i < 4; i++) {
            functions[i] = Plugins.function(1, 0, LOAD, 0, HOST, i, RETURN);
        }
        for (int start = 0; start < VALUES.length; start++) {
            PluginHost host = Plugins.hostWith(2000, Plugins.plugin(imports, functions));
            BigInteger memory = BigInteger.ZERO;
            for (int i = 0; i < 60; i++) {
                int v = VALUES[(start + i) % VALUES.length];
                int[] path = imports[i % 4];
                memory = asked(memory, v, path[0], path[1], path[2]);
                Check.due("call(0, " + i % 4 + ", " + v + ", 0)", host.call(0, i % 4, v, 0), PluginHost.RETURNED);
                Check.due("memory()", host.memory(), memory.longValue());
            }
        }
        PluginHost host = Plugins.hostWith(2000, Plugins.plugin(imports, functions));
        Plugins.call("v is MAX", host, 0, MAX, 0, PluginHost.RETURNED, 1048575);
        Check.due("memory()", host.memory(), 2147483647L * 512);
        host = Plugins.hostWith(2000, Plugins.plugin(imports, functions));
        Plugins.call("v is MIN", host, 1, MIN, 0, PluginHost.RETURNED, -1048576);
        Check.due("memory()", host.memory(), -2147483648L * 512 + 511);
    }

    private static void hostAnswers() {
        Check.sentence("the answer is (int) (h >>> 20) of the new h");
        int[][] imports = {{3, 5, 1}};
        PluginHost host = Plugins.hostWith(2000, Plugins.plugin(imports, Plugins.function(1, 0, LOAD, 0, HOST, 0, RETURN)));
        BigInteger memory = BigInteger.ZERO;
        for (int v : new int[] {2047, 2048, -1, MAX, MIN, MAX, MAX, MIN, 0, 0, 0, 0, 0, 0, -1, 1}) {
            memory = asked(memory, v, 3, 5, 1);
            int answer = memory.mod(BigInteger.ONE.shiftLeft(64)).shiftRight(20).intValue();
            Plugins.call("HOST", host, 0, v, 0, PluginHost.RETURNED, answer);
            Check.due("memory()", host.memory(), memory.longValue());
        }
    }
}

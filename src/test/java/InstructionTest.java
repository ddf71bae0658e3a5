/** Promises 13 and 14: what every instruction does, and the answers of calls. */
public final class InstructionTest {
    private static final int PUSH = Plugins.PUSH, LOAD = Plugins.LOAD, STORE = Plugins.STORE, ADD = Plugins.ADD;
    private static final int SUB = Plugins.SUB, MUL = Plugins.MUL, DIV = Plugins.DIV, LESS = Plugins.LESS;
    private static final int DUP = Plugins.DUP, POP = Plugins.POP, JUMP = Plugins.JUMP, JZERO = Plugins.JZERO;
    private static final int CALL = Plugins.CALL, GGET = Plugins.GGET, GSET = Plugins.GSET, RETURN = Plugins.RETURN;
    private static final int MIN = Integer.MIN_VALUE, MAX = Integer.MAX_VALUE;

    public static void main(String[] args) {
        pushIsSigned();
        arithmetic();
        locals();
        parametersAsManyAsThereAre();
        stackInstructions();
        jumps();
        calls();
        statics();
        localsAreFreshInEveryActivation();
        activationsAreApart();
        stacksAreEmptyAtFirst();
        pluginsKeepTheirOwnCode();
        Check.end();
    }

    private static void answers(String name, int[] plugin, int a, int b, int result) {
        Plugins.call(name, Plugins.hostWith(2000, plugin), 0, a, b, PluginHost.RETURNED, result);
    }

    private static void pushIsSigned() {
        for (int b = 0; b <= 255; b++) {
            answers("PUSH " + b, Plugins.single(0, 0, PUSH, b, RETURN), 1, 1, b < 128 ? b : b - 256);
        }
    }

    private static void arithmetic() {
        int[] values = {0, 1, -1, 2, -2, 3, 7, -7, 100, 65536, 46341, MAX, MAX - 1, MIN, MIN + 1};
        for (int code = ADD; code <= LESS; code++) {
            for (int a : values) {
                PluginHost host = Plugins.hostWith(2000, Plugins.single(2, 0, LOAD, 0, LOAD, 1, code, RETURN));
                for (int b : values) {
                    boolean fails = code == DIV && b == 0;
                    int ending = fails ? PluginHost.DIVIDE : PluginHost.RETURNED;
                    int want = fails ? 0 : (int) computed(code, a, b);
                    Plugins.call("instruction " + code, host, 0, a, b, ending, want);
                }
            }
        }
    }

    private static long computed(int code, long a, long b) {
        switch (code) {
            case ADD: return a + b;
            case SUB: return a - b;
            case MUL: return a * b;
            case DIV: return a / b;
            default: return a < b ? 1 : 0;
        }
    }

    private static void locals() {
        int[] plugin = Plugins.single(2, 3, LOAD, 0, STORE, 4, LOAD, 1, STORE, 0, LOAD, 4, STORE, 1,
            LOAD, 0, PUSH, 10, MUL, LOAD, 1, ADD, RETURN);
        answers("exchanged", plugin, 3, 4, 43);
        for (int b = 0; b < 3; b++) {
            answers("a further local is 0 at first", Plugins.single(2, 3, LOAD, 2 + b, RETURN), 3, 4, 0);
        }
        answers("local 0", Plugins.single(2, 3, LOAD, 0, RETURN), 3, 4, 3);
        answers("local 1", Plugins.single(2, 3, LOAD, 1, RETURN), 3, 4, 4);
    }

    private static void parametersAsManyAsThereAre() {
        answers("no parameter", Plugins.single(0, 3, LOAD, 0, LOAD, 1, ADD, LOAD, 2, ADD, RETURN), 3, 4, 0);
        answers("one parameter", Plugins.single(1, 3, LOAD, 0, LOAD, 1, ADD, LOAD, 2, ADD, LOAD, 3, ADD, RETURN), 3, 4, 3);
        answers("two parameters", Plugins.single(2, 0, LOAD, 0, LOAD, 1, ADD, RETURN), 3, 4, 7);
    }

    private static void stackInstructions() {
        answers("DUP", Plugins.single(1, 0, LOAD, 0, DUP, MUL, RETURN), 9, 0, 81);
        answers("POP", Plugins.single(0, 0, PUSH, 1, PUSH, 2, POP, RETURN), 0, 0, 1);
        answers("RETURN takes the topmost", Plugins.single(0, 0, PUSH, 1, PUSH, 2, PUSH, 3, RETURN), 0, 0, 3);
        answers("6 entries", Plugins.single(0, 0, PUSH, 1, PUSH, 2, PUSH, 3, PUSH, 4, PUSH, 5, PUSH, 6, SUB, SUB, SUB, SUB, SUB, RETURN),
            0, 0, -3);
    }

    private static void jumps() {
        int[] either = Plugins.single(1, 0, LOAD, 0, JZERO, 3, PUSH, 5, RETURN, PUSH, 6, RETURN);
        answers("JZERO on 0", either, 0, 0, 6);
        answers("JZERO on 1", either, 1, 0, 5);
        answers("JZERO on -1", either, -1, 0, 5);
        answers("JZERO on 256", either, 256, 0, 5);
        answers("JUMP", Plugins.single(0, 0, JUMP, 3, PUSH, 5, RETURN, PUSH, 6, RETURN), 0, 0, 6);
        int[] sum = Plugins.single(1, 1, LOAD, 0, JZERO, 16, LOAD, 1, LOAD, 0, ADD, STORE, 1, LOAD, 0, PUSH, 1, SUB, STORE, 0,
            JUMP, 236, LOAD, 1, RETURN);
        answers("a loop", sum, 10, 0, 55);
        answers("a loop run no time", sum, 0, 0, 0);
    }

    private static void calls() {
        int[] two = Plugins.function(2, 0, LOAD, 0, PUSH, 10, MUL, LOAD, 1, ADD, RETURN);
        int[] first = Plugins.function(2, 0, PUSH, 100, LOAD, 0, LOAD, 1, CALL, 1, ADD, RETURN);
        answers("the last parameter is on top", Plugins.plugin(Plugins.NO_IMPORTS, first, two), 3, 4, 134);
        int[] one = Plugins.function(1, 1, LOAD, 0, LOAD, 0, MUL, PUSH, 9, PUSH, 8, RETURN);
        int[] callsOne = Plugins.function(1, 0, PUSH, 50, LOAD, 0, CALL, 1, SUB, RETURN);
        answers("what the called one leaves is dropped", Plugins.plugin(Plugins.NO_IMPORTS, callsOne, one), 3, 4, 42);
        int[] none = Plugins.function(0, 0, PUSH, 7, RETURN);
        int[] callsNone = Plugins.function(0, 0, PUSH, 1, PUSH, 2, PUSH, 3, PUSH, 4, PUSH, 5, CALL, 1, ADD, ADD, ADD, ADD, ADD, RETURN);
        answers("without parameters", Plugins.plugin(Plugins.NO_IMPORTS, callsNone, none), 0, 0, 22);
        int[] factorial = Plugins.single(1, 0, LOAD, 0, JZERO, 11, LOAD, 0, LOAD, 0, PUSH, 1, SUB, CALL, 0, MUL, RETURN, PUSH, 1, RETURN);
        answers("a function that calls itself", factorial, 5, 0, 120);
        answers("a function that calls itself, the end", factorial, 0, 0, 1);
    }

    private static void statics() {
        PluginHost host = Plugins.hostWith(2000, Plugins.plugin(Plugins.NO_IMPORTS,
            Plugins.function(1, 0, LOAD, 0, GSET, 0, GGET, 0, PUSH, 1, ADD, GSET, 3, GGET, 3, RETURN),
            Plugins.function(0, 0, GGET, 0, GGET, 3, ADD, RETURN)));
        Plugins.call("statics", host, 0, 20, 0, PluginHost.RETURNED, 21);
        Plugins.call("statics are kept between calls", host, 1, 0, 0, PluginHost.RETURNED, 41);
        Check.due("peek(0, 0)", host.peek(0, 0), 20);
        Check.due("peek(0, 1)", host.peek(0, 1), 0);
        Check.due("peek(0, 2)", host.peek(0, 2), 0);
        Check.due("peek(0, 3)", host.peek(0, 3), 21);
    }

    private static void localsAreFreshInEveryActivation() {
        int[] dirty = Plugins.function(0, 3, LOAD, 0, LOAD, 1, ADD, LOAD, 2, ADD, PUSH, 9, STORE, 0, PUSH, 9, STORE, 1,
            PUSH, 9, STORE, 2, RETURN);
        int[] twice = Plugins.function(0, 1, PUSH, 5, STORE, 0, CALL, 1, CALL, 1, ADD, LOAD, 0, ADD, RETURN);
        PluginHost host = Plugins.hostWith(2000, Plugins.plugin(Plugins.NO_IMPORTS, twice, dirty));
        Plugins.call("called twice", host, 0, 0, 0, PluginHost.RETURNED, 5);
        Plugins.call("called from outside", host, 1, 0, 0, PluginHost.RETURNED, 0);
        Plugins.call("called from outside again", host, 1, 7, 7, PluginHost.RETURNED, 0);
    }

    /** Six activations, every other one with five locals that are read again after the next one has run. */
    private static void activationsAreApart() {
        int[] fill = Plugins.function(2, 3, LOAD, 0, STORE, 2, LOAD, 0, STORE, 3, LOAD, 0, STORE, 4,
            LOAD, 1, LOAD, 2, LOAD, 3, LOAD, 4, LOAD, 1, LOAD, 0, CALL, 1, ADD, ADD, ADD, ADD, LOAD, 4, ADD, RETURN);
        int[] further = Plugins.function(2, 0, LOAD, 0, JZERO, 13, LOAD, 1, PUSH, 10, MUL, LOAD, 0, PUSH, 1, SUB, CALL, 0,
            RETURN, PUSH, 0, RETURN);
        PluginHost host = Plugins.hostWith(2000, Plugins.plugin(Plugins.NO_IMPORTS, fill, further));
        Plugins.call("one", host, 0, 1, 0, PluginHost.RETURNED, 4);
        Plugins.call("two", host, 0, 1, 1, PluginHost.RETURNED, 1 + 4 + 40);
        Plugins.call("three", host, 0, 1, 2, PluginHost.RETURNED, 2 + 4 + 1 + 40 + 400);
        Plugins.call("four", host, 0, 1, 3, PluginHost.DEEP, 0);
        sixFullStacks();
    }

    private static void sixFullStacks() {
        int[] code = {LOAD, 0, JZERO, 17, LOAD, 0, DUP, DUP, DUP, LOAD, 0, PUSH, 1, SUB, CALL, 0, ADD, ADD, ADD, ADD, RETURN,
            PUSH, 1, DUP, DUP, DUP, DUP, DUP, ADD, ADD, ADD, ADD, ADD, RETURN};
        PluginHost host = Plugins.hostWith(2000, Plugins.single(1, 0, code));
        Plugins.call("six activations, the last with six entries", host, 0, 5, 0, PluginHost.RETURNED, 4 * (1 + 2 + 3 + 4 + 5) + 6);
    }

    private static void stacksAreEmptyAtFirst() {
        int[] sum = {PUSH, 1, PUSH, 2, PUSH, 3, PUSH, 4, PUSH, 5, LOAD, 0, DIV, ADD, ADD, ADD, ADD, RETURN};
        PluginHost host = Plugins.hostWith(2000, Plugins.single(1, 0, sum));
        for (int i = 0; i < 40; i++) {
            Plugins.call("leaves five entries behind", host, 0, 0, 0, PluginHost.DIVIDE, 0);
        }
        Plugins.call("starts without them", host, 0, 1, 0, PluginHost.RETURNED, 15);
    }

    private static void pluginsKeepTheirOwnCode() {
        PluginHost host = new PluginHost();
        for (int p = 0; p < 3; p++) {
            Plugins.put(host, Plugins.plugin(Plugins.NO_IMPORTS, Plugins.function(0, 0, CALL, 1, RETURN),
                Plugins.function(0, 0, PUSH, 10 + p, RETURN)));
            Check.due("submit()", host.submit(), PluginHost.ACCEPTED);
        }
        for (int p = 2; p >= 0; p--) {
            Check.due("open(" + p + ", 10)", host.open(p, 10), 2 - p);
        }
        Plugins.put(host, Plugins.single(0, 0, PUSH, 99, RETURN));
        host.submit();
        for (int x = 0; x < 3; x++) {
            Check.due("call(" + x + ", 0, 0, 0)", host.call(x, 0, 0, 0), PluginHost.RETURNED);
            Check.due("result()", host.result(), 12 - x);
        }
    }
}

/** Promises 13, 14 and 17: REFUSED, BLOCKED, DEEP, DIVIDE, what result() tells after them, and the host's memory. */
public final class CallTest {
    private static final int PUSH = Plugins.PUSH, LOAD = Plugins.LOAD, STORE = Plugins.STORE, ADD = Plugins.ADD;
    private static final int SUB = Plugins.SUB, DIV = Plugins.DIV, JZERO = Plugins.JZERO, CALL = Plugins.CALL;
    private static final int HOST = Plugins.HOST, GGET = Plugins.GGET, GSET = Plugins.GSET, RETURN = Plugins.RETURN;
    private static final int MIN = Integer.MIN_VALUE, MAX = Integer.MAX_VALUE;

    public static void main(String[] args) {
        refused();
        blocked();
        refusedComesBeforeBlocked();
        deep();
        divide();
        resultIsOfTheLatestCall();
        hostMemory();
        hostMemoryIsShared();
        hostMemoryStays();
        Check.end();
    }

    private static void refused() {
        PluginHost host = Plugins.hostWith(100, Plugins.plugin(Plugins.NO_IMPORTS,
            Plugins.function(0, 0, PUSH, 5, RETURN), Plugins.function(0, 0, PUSH, 6, RETURN)));
        Plugins.call("function 1", host, 1, 0, 0, PluginHost.RETURNED, 6);
        for (int f : new int[] {-1, 2, 3, 4, MIN, MAX}) {
            Plugins.call("no function", host, f, 0, 0, PluginHost.REFUSED, 6);
        }
        for (int x : new int[] {-1, 1, 2, 3, 4, MIN, MAX}) {
            Check.due("call(" + x + ", 0, 0, 0)", host.call(x, 0, 0, 0), PluginHost.REFUSED);
        }
        Check.due("left(0)", host.left(0), 98);
        Check.due("result()", host.result(), 6);
    }

    private static void blocked() {
        int[][] imports = {{1, 2, 3}, {1, 2, 4}};
        PluginHost host = Plugins.hostWith(100, Plugins.plugin(imports, Plugins.function(0, 0, PUSH, 5, RETURN),
            Plugins.function(1, 0, LOAD, 0, GSET, 0, LOAD, 0, HOST, 0, RETURN)));
        Plugins.call("allowed", host, 0, 0, 0, PluginHost.RETURNED, 5);
        host.rule(6, 1, 2, 4);
        Plugins.call("an import that is never asked is denied", host, 0, 0, 0, PluginHost.BLOCKED, 5);
        Plugins.call("the other import is denied", host, 1, 9, 0, PluginHost.BLOCKED, 5);
        Check.due("left(0)", host.left(0), 98);
        Check.due("peek(0, 0)", host.peek(0, 0), 0);
        Check.due("memory()", host.memory(), 0);
        host.rule(7, 1, 2, 4);
        Plugins.call("allowed again", host, 1, 9, 0, PluginHost.RETURNED, 0);
        Check.due("memory()", host.memory(), 9 * 512 + 83);
        host.rule(6, 1, 2, 3);
        Plugins.call("the first import is denied", host, 1, 9, 0, PluginHost.BLOCKED, 0);
        host.unrule();
        host.rule(6, 1, 2, 5);
        Plugins.call("another path is denied", host, 0, 9, 0, PluginHost.RETURNED, 5);
        blockedIsThePluginsOwn(host);
    }

    private static void blockedIsThePluginsOwn(PluginHost host) {
        host.rule(0, 0, 0, 0);
        host.rule(4, 1, 2, 0);
        Plugins.put(host, Plugins.single(0, 0, PUSH, 8, RETURN));
        Check.due("submit()", host.submit(), PluginHost.ACCEPTED);
        Check.due("open(1, 10)", host.open(1, 10), 1);
        Check.due("call(1, 0, 0, 0)", host.call(1, 0, 0, 0), PluginHost.RETURNED);
        Check.due("call(0, 0, 0, 0)", host.call(0, 0, 0, 0), PluginHost.BLOCKED);
        Check.due("result()", host.result(), 8);
    }

    private static void refusedComesBeforeBlocked() {
        PluginHost host = Plugins.hostWith(100, Plugins.plugin(new int[][] {{1, 2, 3}}, Plugins.function(0, 0, PUSH, 5, RETURN)));
        host.rule(0, 0, 0, 0);
        Plugins.call("no function of a blocked plugin", host, 1, 0, 0, PluginHost.REFUSED, 0);
        Plugins.call("a function of a blocked plugin", host, 0, 0, 0, PluginHost.BLOCKED, 0);
    }

    private static void deep() {
        int[] code = {GGET, 0, PUSH, 1, ADD, GSET, 0, LOAD, 0, JZERO, 8, LOAD, 0, PUSH, 1, SUB, CALL, 0, RETURN, PUSH, 42, RETURN};
        for (int n = 0; n <= 8; n++) {
            PluginHost host = Plugins.hostWith(2000, Plugins.single(1, 0, code));
            boolean fits = n <= 5;
            Plugins.call(n + " further activations", host, 0, n, 0, fits ? PluginHost.RETURNED : PluginHost.DEEP, fits ? 42 : 0);
            Check.due("peek(0, 0)", host.peek(0, 0), Math.min(n + 1, 6));
            // 6 up to the JZERO and 4 up to the CALL; the last of those that fit answers for 2, each of the others for 1.
            int paid = fits ? n * (6 + 4 + 1) + 6 + 2 : 6 * (6 + 4);
            Check.due("left(0)", host.left(0), 2000 - paid);
        }
        PluginHost host = Plugins.hostWith(2000, Plugins.single(1, 0, code));
        Plugins.call("too deep", host, 0, 6, 0, PluginHost.DEEP, 0);
        Plugins.call("deep enough afterwards", host, 0, 5, 0, PluginHost.RETURNED, 42);
    }

    private static void divide() {
        PluginHost host = Plugins.hostWith(2000, Plugins.plugin(Plugins.NO_IMPORTS,
            Plugins.function(2, 0, LOAD, 0, LOAD, 1, DIV, RETURN),
            Plugins.function(2, 0, PUSH, 3, GSET, 2, LOAD, 0, LOAD, 1, CALL, 0, GSET, 2, PUSH, 1, RETURN)));
        Plugins.call("cut off towards zero", host, 0, -7, 2, PluginHost.RETURNED, -3);
        Plugins.call("cut off towards zero", host, 0, 7, -2, PluginHost.RETURNED, -3);
        Plugins.call("the least by -1", host, 0, MIN, -1, PluginHost.RETURNED, MIN);
        Plugins.call("by 0", host, 0, 5, 0, PluginHost.DIVIDE, 0);
        Plugins.call("0 by 0", host, 0, 0, 0, PluginHost.DIVIDE, 0);
        Plugins.call("0 by 5", host, 0, 0, 5, PluginHost.RETURNED, 0);
        int before = host.left(0);
        Plugins.call("by 0 in a called function", host, 1, 5, 0, PluginHost.DIVIDE, 0);
        Check.due("left(0)", host.left(0), before - 5 - 4);
        Check.due("peek(0, 2)", host.peek(0, 2), 3);
        Plugins.call("goes on afterwards", host, 1, 6, 3, PluginHost.RETURNED, 1);
        Check.due("peek(0, 2)", host.peek(0, 2), 2);
    }

    private static void resultIsOfTheLatestCall() {
        PluginHost host = Plugins.hostWith(12, Plugins.single(2, 0, LOAD, 0, LOAD, 1, DIV, RETURN));
        Check.due("result() before any call", host.result(), 0);
        Plugins.call("returned", host, 0, 8, 2, PluginHost.RETURNED, 4);
        Check.due("result() again", host.result(), 4);
        Check.due("call(3, 0, 0, 0)", host.call(3, 0, 0, 0), PluginHost.REFUSED);
        Check.due("result() after REFUSED", host.result(), 4);
        Plugins.call("divided by 0", host, 0, 8, 0, PluginHost.DIVIDE, 0);
        Plugins.call("returned", host, 0, 9, 3, PluginHost.RETURNED, 3);
        Plugins.call("no quota", host, 0, 9, 3, PluginHost.QUOTA, 0);
        Check.due("call(3, 0, 0, 0)", host.call(3, 0, 0, 0), PluginHost.REFUSED);
        Check.due("result() after QUOTA and REFUSED", host.result(), 0);
        Check.due("open(0, 4)", host.open(0, 4), 1);
        Check.due("call(1, 0, 6, 3)", host.call(1, 0, 6, 3), PluginHost.RETURNED);
        Check.due("close(1)", host.close(1), true);
        Check.due("close(0)", host.close(0), true);
        Check.due("unload(0)", host.unload(0), true);
        Check.due("result() after the sandbox is gone", host.result(), 2);
    }

    private static void hostMemory() {
        int[][] imports = {{0, 0, 0}, {7, 7, 7}, {1, 2, 3}, {4, 0, 6}};
        int[] paths = {0, 511, 83, 262};
        int[][] functions = new int[4][];
        for (int f = 0; f < 4; f++) {
            functions[f] = Plugins.function(1, 0, LOAD, 0, HOST, f, RETURN);
        }
        PluginHost host = Plugins.hostWith(2000, Plugins.plugin(imports, functions));
        int[] values = {0, 1, -1, 5, MAX, MIN, 123456789, -987654321, 0, 77};
        long h = 0;
        for (int i = 0; i < 40; i++) {
            int v = values[i % values.length];
            int f = (i / values.length + i) % 4;
            h = h * 33 + (long) v * 512 + paths[f];
            Plugins.call("HOST " + f, host, f, v, 0, PluginHost.RETURNED, (int) (h >>> 20));
            Check.due("memory()", host.memory(), h);
        }
        Check.due("left(0)", host.left(0), 2000 - 40 * 7);
    }

    private static void hostMemoryIsShared() {
        PluginHost host = Plugins.hostWith(20, Plugins.plugin(new int[][] {{0, 0, 1}}, Plugins.function(1, 0, LOAD, 0, HOST, 0, RETURN)));
        Plugins.put(host, Plugins.plugin(new int[][] {{3, 3, 3}, {0, 1, 0}}, Plugins.function(1, 0, LOAD, 0, HOST, 1, RETURN)));
        Check.due("submit()", host.submit(), PluginHost.ACCEPTED);
        Check.due("open(1, 20)", host.open(1, 20), 1);
        Check.due("open(0, 20)", host.open(0, 20), 2);
        Check.due("call(0, 0, 1, 0)", host.call(0, 0, 1, 0), PluginHost.RETURNED);
        Check.due("memory()", host.memory(), 513);
        Check.due("call(1, 0, 2, 0)", host.call(1, 0, 2, 0), PluginHost.RETURNED);
        Check.due("memory()", host.memory(), 513 * 33 + 1024 + 8);
        Check.due("call(2, 0, -1, 0)", host.call(2, 0, -1, 0), PluginHost.RETURNED);
        Check.due("memory()", host.memory(), (513 * 33 + 1024 + 8) * 33 - 512 + 1);
        for (int x = 0; x < 3; x++) {
            Check.due("close(" + x + ")", host.close(x), true);
        }
        Check.due("unload(0)", host.unload(0), true);
        Check.due("memory() is kept", host.memory(), (513 * 33 + 1024 + 8) * 33 - 512 + 1);
    }

    private static void hostMemoryStays() {
        int[] plugin = Plugins.plugin(new int[][] {{0, 0, 1}}, Plugins.function(2, 1, LOAD, 0, HOST, 0, STORE, 2, LOAD, 0, LOAD, 1, DIV, RETURN));
        PluginHost host = Plugins.hostWith(100, plugin);
        Plugins.call("ended by DIVIDE", host, 0, 1, 0, PluginHost.DIVIDE, 0);
        Check.due("memory()", host.memory(), 513);
        host = Plugins.hostWith(8, plugin);
        Plugins.call("ended by QUOTA", host, 0, 1, 0, PluginHost.QUOTA, 0);
        Check.due("memory()", host.memory(), 513);
        Check.due("left(0)", host.left(0), 2);
        host = Plugins.hostWith(5, plugin);
        Plugins.call("ended by QUOTA before the HOST", host, 0, 1, 0, PluginHost.QUOTA, 0);
        Check.due("memory()", host.memory(), 0);
    }
}

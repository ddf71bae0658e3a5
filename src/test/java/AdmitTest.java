/** Promises 7 to 9: DENIED, NOROOM, ACCEPTED, and what place() and number() tell after them. */
public final class AdmitTest {
    private static final int[] SMALL = Plugins.single(0, 0, Plugins.PUSH, 1, Plugins.RETURN);

    public static void main(String[] args) {
        denied();
        deniedIsTheLastCheck();
        numbersAndRoom();
        refusedPluginsChangeNothing();
        numberStaysUntilTheNextSubmit();
        Check.end();
    }

    private static void submit(PluginHost host, int finding, int place, int number) {
        Check.due("submit()", host.submit(), finding);
        Check.due("place()", host.place(), place);
        Check.due("number()", host.number(), number);
    }

    private static void denied() {
        int[][] imports = {{1, 2, 3}, {1, 2, 4}, {2, 2, 2}, {7, 0, 7}};
        int[] plugin = Plugins.plugin(imports, Plugins.function(0, 0, Plugins.PUSH, 1, Plugins.RETURN));
        PluginHost host = new PluginHost();
        Plugins.put(host, plugin);
        submit(host, PluginHost.DENIED, 2, -1);
        host.rule(7, 1, 2, 3);
        submit(host, PluginHost.DENIED, 5, -1);
        host.rule(5, 1, 2, 0);
        submit(host, PluginHost.DENIED, 8, -1);
        host.rule(3, 2, 0, 0);
        submit(host, PluginHost.DENIED, 11, -1);
        host.rule(1, 0, 0, 0);
        host.rule(6, 1, 2, 4);
        submit(host, PluginHost.DENIED, 5, -1);
        host.unrule();
        submit(host, PluginHost.ACCEPTED, -1, 0);
        Check.due("wipe()", host.wipe(), 0);
    }

    private static void deniedIsTheLastCheck() {
        int[][] imports = {{1, 2, 3}};
        int[][] functions = {{0, 0, 1, 99}, {0, 0, 2, 10, 9}, {0, 0, 1, 16}};
        int[] findings = {PluginHost.BADCODE, PluginHost.BADJUMP, PluginHost.BADFLOW};
        for (int i = 0; i < findings.length; i++) {
            PluginHost host = new PluginHost();
            Plugins.put(host, Plugins.plugin(imports, functions[i]));
            submit(host, findings[i], 9, -1);
        }
        PluginHost host = new PluginHost();
        Plugins.put(host, Plugins.plugin(imports, Plugins.function(0, 0, 0, 1, 16)));
        host.put(0);
        submit(host, PluginHost.TRAILING, 12, -1);
    }

    private static void numbersAndRoom() {
        PluginHost host = new PluginHost();
        for (int p = 0; p < 3; p++) {
            Plugins.put(host, SMALL);
            submit(host, PluginHost.ACCEPTED, -1, p);
            Check.due("wipe()", host.wipe(), 0);
        }
        host.put(80);
        submit(host, PluginHost.CUT, 1, -1);
        host.wipe();
        Plugins.put(host, SMALL);
        submit(host, PluginHost.NOROOM, -1, -1);
        submit(host, PluginHost.NOROOM, -1, -1);
        Check.due("unload(1)", host.unload(1), true);
        submit(host, PluginHost.ACCEPTED, -1, 1);
        Plugins.put(host, SMALL);
        submit(host, PluginHost.NOROOM, -1, -1);
        Check.due("unload(2)", host.unload(2), true);
        Check.due("unload(0)", host.unload(0), true);
        submit(host, PluginHost.ACCEPTED, -1, 0);
        submit(host, PluginHost.CUT, 0, -1);
        Plugins.put(host, SMALL);
        submit(host, PluginHost.ACCEPTED, -1, 2);
        deniedComesBeforeNoroom(host);
    }

    private static void deniedComesBeforeNoroom(PluginHost full) {
        Plugins.put(full, Plugins.plugin(new int[][] {{1, 1, 1}}, Plugins.function(0, 0, 0, 1, 16)));
        submit(full, PluginHost.DENIED, 2, -1);
        full.rule(1, 0, 0, 0);
        submit(full, PluginHost.NOROOM, -1, -1);
        Check.due("wipe()", full.wipe(), 12);
    }

    private static void refusedPluginsChangeNothing() {
        PluginHost host = Plugins.hostWith(50, Plugins.single(1, 0, Plugins.LOAD, 0, Plugins.GSET, 1, Plugins.PUSH, 7, Plugins.RETURN));
        Plugins.call("before", host, 0, 5, 0, PluginHost.RETURNED, 7);
        int[][] refused = {{80}, {81}, {80, 0, 1, 0, 0, 1, 99}, {80, 0, 1, 0, 0, 2, 10, 9}, {80, 0, 1, 0, 0, 1, 16},
            {80, 0, 1, 0, 0, 3, 0, 1, 16, 1}};
        for (int[] bytes : refused) {
            Plugins.put(host, bytes);
            Check.due("submit() is not ACCEPTED", host.submit() != PluginHost.ACCEPTED, true);
            Check.due("number()", host.number(), -1);
            Check.due("open(1, 1)", host.open(1, 1), -1);
            Check.due("left(0)", host.left(0), 46);
            Check.due("peek(0, 1)", host.peek(0, 1), 5);
            Check.due("result()", host.result(), 7);
            Check.due("wipe()", host.wipe(), bytes.length);
        }
        Plugins.call("after", host, 0, 6, 0, PluginHost.RETURNED, 7);
        Check.due("peek(0, 1)", host.peek(0, 1), 6);
    }

    private static void numberStaysUntilTheNextSubmit() {
        PluginHost host = new PluginHost();
        Plugins.put(host, SMALL);
        submit(host, PluginHost.ACCEPTED, -1, 0);
        host.unload(0);
        Check.due("number() after unload(0)", host.number(), 0);
        host.put(1);
        host.wipe();
        Check.due("number() after wipe()", host.number(), 0);
        host.put(1);
        submit(host, PluginHost.BADHEAD, 0, -1);
        host.wipe();
        Check.due("place() after wipe()", host.place(), 0);
    }
}

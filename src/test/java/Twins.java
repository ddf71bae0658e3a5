import java.util.ArrayList;
import java.util.List;
import java.util.function.Consumer;
import java.util.function.Supplier;

/** Tells whether a call changed something: of two hosts with the same past one gets the call, then both are asked everything. */
final class Twins {
    private static final int[] PARTS = {0, 1, 7};
    /** The first answers of everything() are those of place() and number(). */
    private static final int PLACE_AND_NUMBER = 2;

    private Twins() {
    }

    static void unchanged(String call, Supplier<PluginHost> past, Consumer<PluginHost> refused) {
        compare(call, past, refused, 0);
    }

    static void unchangedButPlaceAndNumber(String call, Supplier<PluginHost> past, Consumer<PluginHost> refused) {
        compare(call, past, refused, PLACE_AND_NUMBER);
    }

    private static void compare(String call, Supplier<PluginHost> past, Consumer<PluginHost> refused, int from) {
        PluginHost changed = past.get();
        refused.accept(changed);
        List<String> got = everything(changed);
        List<String> want = everything(past.get());
        for (int i = from; i < want.size(); i++) {
            String pair = want.get(i) + " without " + call + ", " + got.get(i) + " after it: the same";
            Check.due(pair, got.get(i).equals(want.get(i)), true);
        }
    }

    /** Asks all there is to ask, first what changes nothing; together with a past it must stay below 512 calls. */
    private static List<String> everything(PluginHost host) {
        List<String> all = new ArrayList<>();
        add(all, "place()", host.place());
        add(all, "number()", host.number());
        add(all, "result()", host.result());
        add(all, "memory()", host.memory());
        for (int x = 0; x < 4; x++) {
            add(all, "left(" + x + ")", host.left(x));
            for (int s = 0; s < 4; s++) {
                add(all, "peek(" + x + ", " + s + ")", host.peek(x, s));
            }
        }
        askPolicy(all, host);
        add(all, "submit()", host.submit());
        add(all, "place() of that", host.place());
        add(all, "number() of that", host.number());
        add(all, "wipe()", host.wipe());
        askSandboxes(all, host);
        askRules(all, host);
        return all;
    }

    private static void add(List<String> all, String call, long answer) {
        all.add(call + " is " + answer);
    }

    private static void add(List<String> all, String call, boolean answer) {
        all.add(call + " is " + answer);
    }

    private static void askPolicy(List<String> all, PluginHost host) {
        for (int a : PARTS) {
            for (int b : PARTS) {
                for (int c : PARTS) {
                    add(all, "allows(" + a + ", " + b + ", " + c + ")", host.allows(a, b, c));
                }
            }
        }
    }

    private static void askSandboxes(List<String> all, PluginHost host) {
        for (int x = 0; x < 4; x++) {
            for (int f = 0; f < 3; f++) {
                add(all, "call(" + x + ", " + f + ", 6, 2)", host.call(x, f, 6, 2));
                add(all, "result()", host.result());
            }
            add(all, "left(" + x + ")", host.left(x));
        }
        for (int p = 0; p < 3; p++) {
            add(all, "unload(" + p + ")", host.unload(p));
            add(all, "open(" + p + ", 9)", host.open(p, 9));
        }
        for (int x = 0; x < 4; x++) {
            add(all, "close(" + x + ")", host.close(x));
        }
    }

    private static void askRules(List<String> all, PluginHost host) {
        for (int i = 0; i < 13; i++) {
            add(all, "unrule()", host.unrule());
            add(all, "allows(1, 1, 1)", host.allows(1, 1, 1));
        }
    }

    /** Some of everything: three rules, two plugins, two sandboxes with statics, quotas used, host memory, a result, and bytes. */
    static PluginHost busy() {
        PluginHost host = new PluginHost();
        host.rule(1, 0, 0, 0);
        host.rule(4, 1, 1, 0);
        host.rule(7, 1, 1, 7);
        Plugins.put(host, Plugins.plugin(new int[][] {{1, 1, 7}},
            Plugins.function(1, 0, Plugins.LOAD, 0, Plugins.GSET, 1, Plugins.LOAD, 0, Plugins.HOST, 0, Plugins.RETURN),
            Plugins.function(2, 0, Plugins.LOAD, 0, Plugins.LOAD, 1, Plugins.DIV, Plugins.RETURN)));
        Check.due("submit()", host.submit(), PluginHost.ACCEPTED);
        Plugins.put(host, Plugins.single(0, 0, Plugins.PUSH, 77, Plugins.RETURN));
        Check.due("submit()", host.submit(), PluginHost.ACCEPTED);
        Check.due("open(0, 100)", host.open(0, 100), 0);
        Check.due("open(1, 50)", host.open(1, 50), 1);
        Check.due("open(0, 30)", host.open(0, 30), 2);
        Check.due("close(1)", host.close(1), true);
        Check.due("call(0, 0, 5, 0)", host.call(0, 0, 5, 0), PluginHost.RETURNED);
        Check.due("call(2, 0, -3, 0)", host.call(2, 0, -3, 0), PluginHost.RETURNED);
        Check.due("call(2, 1, 9, 3)", host.call(2, 1, 9, 3), PluginHost.RETURNED);
        Plugins.put(host, Plugins.single(0, 0, Plugins.PUSH, 33, Plugins.RETURN));
        return host;
    }
}

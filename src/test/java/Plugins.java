import java.util.ArrayList;
import java.util.List;

/** Writes plugins as bytes and hands them to a host. */
final class Plugins {
    static final int PUSH = 0, LOAD = 1, STORE = 2, ADD = 3, SUB = 4, MUL = 5, DIV = 6, LESS = 7, DUP = 8, POP = 9;
    static final int JUMP = 10, JZERO = 11, CALL = 12, HOST = 13, GGET = 14, GSET = 15, RETURN = 16;
    static final int[][] NO_IMPORTS = {};

    private Plugins() {
    }

    static int[] function(int parameters, int further, int... code) {
        int[] all = new int[3 + code.length];
        all[0] = parameters;
        all[1] = further;
        all[2] = code.length;
        System.arraycopy(code, 0, all, 3, code.length);
        return all;
    }

    static int[] plugin(int[][] imports, int[]... functions) {
        List<Integer> all = new ArrayList<>();
        all.add(80);
        all.add(imports.length);
        append(all, imports);
        all.add(functions.length);
        append(all, functions);
        return all.stream().mapToInt(Integer::intValue).toArray();
    }

    private static void append(List<Integer> all, int[][] parts) {
        for (int[] part : parts) {
            for (int b : part) {
                all.add(b);
            }
        }
    }

    /** A plugin without imports that has one function. */
    static int[] single(int parameters, int further, int... code) {
        return plugin(NO_IMPORTS, function(parameters, further, code));
    }

    /** Good code of that length, 3 or more: an entry, doubled and taken off over and over, then answered. */
    static int[] codeOf(int length) {
        int[] code = new int[length];
        for (int at = 2; at < length - 1; at++) {
            code[at] = at % 2 == 0 ? DUP : POP;
        }
        code[length - 1] = RETURN;
        return code;
    }

    /** A good plugin of 120 bytes. */
    static int[] longest() {
        int[] plugin = plugin(new int[][] {{7, 0, 7}}, function(0, 0, codeOf(40)), function(0, 0, codeOf(40)), function(0, 0, codeOf(25)));
        Check.due("the bytes of the longest plugin", plugin.length, 120);
        return plugin;
    }

    static int[] bytes(int... all) {
        return all;
    }

    static void put(PluginHost host, int[] bytes) {
        for (int b : bytes) {
            Check.due("put(" + b + ")", host.put(b), true);
        }
    }

    /** Submits the bytes on a host of their own that allows everything. */
    static void submit(String name, int[] bytes, int finding, int place) {
        PluginHost host = new PluginHost();
        host.rule(1, 0, 0, 0);
        put(host, bytes);
        Check.due(name + ": submit()", host.submit(), finding);
        Check.due(name + ": place()", host.place(), place);
        boolean accepted = finding == PluginHost.ACCEPTED;
        Check.due(name + ": number()", host.number(), accepted ? 0 : -1);
        Check.due(name + ": wipe()", host.wipe(), accepted ? 0 : bytes.length);
    }

    /** A host that allows everything, with the plugin 0 and its sandbox 0. */
    static PluginHost hostWith(int quota, int[] bytes) {
        PluginHost host = new PluginHost();
        host.rule(1, 0, 0, 0);
        put(host, bytes);
        Check.due("submit()", host.submit(), PluginHost.ACCEPTED);
        Check.due("open(0, " + quota + ")", host.open(0, quota), 0);
        return host;
    }

    static void call(String name, PluginHost host, int f, int a, int b, int ending, int result) {
        String call = name + ": call(0, " + f + ", " + a + ", " + b + ")";
        Check.due(call, host.call(0, f, a, b), ending);
        Check.due(call + " and result()", host.result(), result);
    }
}

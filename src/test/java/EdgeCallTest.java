/** The edges of promises 13, 14 and 17: call, result, memory. */
public final class EdgeCallTest {
    private static final int PUSH = Plugins.PUSH, LOAD = Plugins.LOAD, ADD = Plugins.ADD, SUB = Plugins.SUB, DIV = Plugins.DIV;
    private static final int JZERO = Plugins.JZERO, CALL = Plugins.CALL, HOST = Plugins.HOST, POP = Plugins.POP;
    private static final int GGET = Plugins.GGET, GSET = Plugins.GSET, RETURN = Plugins.RETURN;
    private static final int MIN = Integer.MIN_VALUE, MAX = Integer.MAX_VALUE;
    private static final int[][] IMPORT = {{0, 0, 1}};
    /** Calls itself as often as its parameter says, then answers 42; static 0 counts the activations. */
    private static final int[] DOWN = Plugins.function(1, 0, GGET, 0, PUSH, 1, ADD, GSET, 0, LOAD, 0, JZERO, 8,
        LOAD, 0, PUSH, 1, SUB, CALL, 0, RETURN, PUSH, 42, RETURN);

    public static void main(String[] args) {
        parametersAsManyAsItHas();
        noSandbox();
        noFunction();
        blockedImports();
        blockedChangesNothing();
        divideByZero();
        deep();
        thisCallIsAnActivation();
        doneStaysDone();
        resultAfterEachEnding();
        resultOfNone();
        resultAfterRefusals();
        memoryStays();
        at512Calls();
        Check.end();
    }

    private static void call(PluginHost host, int x, int f, int a, int b, int want) {
        Check.due("call(" + x + ", " + f + ", " + a + ", " + b + ")", host.call(x, f, a, b), want);
    }

    private static void parametersAsManyAsItHas() {
        Check.sentence("Calls function f of sandbox x with the parameters a and b (as many as it has).");
        int[] none = Plugins.function(0, 2, LOAD, 0, LOAD, 1, ADD, RETURN);
        int[] one = Plugins.function(1, 2, LOAD, 0, LOAD, 1, ADD, LOAD, 2, ADD, RETURN);
        int[] first = Plugins.function(2, 0, LOAD, 0, RETURN);
        int[] second = Plugins.function(2, 0, LOAD, 1, RETURN);
        PluginHost host = Plugins.hostWith(2000, Plugins.plugin(Plugins.NO_IMPORTS, none, one, first, second));
        for (int value : new int[] {MIN, -1, 0, 1, MAX}) {
            for (int other : new int[] {MIN, 3, MAX}) {
                int[] results = {0, value, value, other};
                for (int f = 0; f < 4; f++) {
                    Plugins.call("function " + f, host, f, value, other, PluginHost.RETURNED, results[f]);
                }
            }
        }
    }

    private static void noSandbox() {
        Check.sentence("REFUSED if x is no sandbox");
        for (int x : new int[] {MIN, -1, 1, 3, 4, 5, 256, MAX}) {
            Twins.unchanged("call(" + x + ", 0, 1, 2)", Twins::busy, host -> call(host, x, 0, 1, 2, PluginHost.REFUSED));
        }
        PluginHost host = Twins.busy();
        Check.due("close(0)", host.close(0), true);
        call(host, 0, 0, 1, 2, PluginHost.REFUSED);
    }

    private static void noFunction() {
        Check.sentence("or f no function of its plugin");
        for (int f : new int[] {MIN, -1, 2, 3, 4, 256, MAX}) {
            Twins.unchanged("call(2, " + f + ", 1, 2)", Twins::busy, host -> call(host, 2, f, 1, 2, PluginHost.REFUSED));
        }
        // The plugin 1 has one function, the plugin 0 has two.
        PluginHost host = Twins.busy();
        Check.due("open(1, 9)", host.open(1, 9), 1);
        call(host, 1, 0, 1, 2, PluginHost.RETURNED);
        call(host, 1, 1, 1, 2, PluginHost.REFUSED);
        for (int count = 1; count <= 4; count++) {
            int[][] functions = new int[count][];
            java.util.Arrays.fill(functions, Plugins.function(0, 0, PUSH, 1, RETURN));
            host = Plugins.hostWith(100, Plugins.plugin(Plugins.NO_IMPORTS, functions));
            for (int f = -1; f <= 5; f++) {
                call(host, 0, f, 0, 0, f >= 0 && f < count ? PluginHost.RETURNED : PluginHost.REFUSED);
            }
        }
        replacedPlugin();
    }

    /** A number that is given again brings another number of functions along. */
    private static void replacedPlugin() {
        PluginHost host = Plugins.hostWith(9, Plugins.plugin(Plugins.NO_IMPORTS, DOWN, DOWN, DOWN));
        call(host, 0, 2, 0, 0, PluginHost.RETURNED);
        Check.due("close(0)", host.close(0), true);
        Check.due("unload(0)", host.unload(0), true);
        Plugins.put(host, Plugins.single(0, 0, PUSH, 1, RETURN));
        Check.due("submit()", host.submit(), PluginHost.ACCEPTED);
        Check.due("open(0, 9)", host.open(0, 9), 0);
        call(host, 0, 1, 0, 0, PluginHost.REFUSED);
        call(host, 0, 0, 0, 0, PluginHost.RETURNED);
    }

    private static void blockedImports() {
        Check.sentence("BLOCKED if the policy now denies one of the plugin's imports");
        int[][] imports = {{0, 0, 0}, {7, 7, 7}, {3, 0, 7}, {3, 0, 6}};
        PluginHost host = Plugins.hostWith(2000, Plugins.plugin(imports, Plugins.function(0, 0, PUSH, 1, RETURN)));
        for (int set = 0; set < 16; set++) {
            int rules = 0;
            for (int i = 0; i < 4; i++) {
                if ((set >> i & 1) == 1) {
                    Check.due("rule(6, ..)", host.rule(6, imports[i][0], imports[i][1], imports[i][2]), true);
                    rules++;
                }
            }
            call(host, 0, 0, 0, 0, set == 0 ? PluginHost.RETURNED : PluginHost.BLOCKED);
            call(host, 0, 1, 0, 0, PluginHost.REFUSED);
            for (int i = 0; i < rules; i++) {
                Check.due("unrule()", host.unrule(), true);
            }
        }
        Check.due("unrule()", host.unrule(), true);
        call(host, 0, 0, 0, 0, PluginHost.BLOCKED);
        host = Plugins.hostWith(9, Plugins.single(0, 0, PUSH, 1, RETURN));
        Check.due("unrule()", host.unrule(), true);
        call(host, 0, 0, 0, 0, PluginHost.RETURNED);
    }

    private static PluginHost busyAndDenied() {
        PluginHost host = Twins.busy();
        Check.due("rule(6, 1, 1, 7)", host.rule(6, 1, 1, 7), true);
        return host;
    }

    private static void blockedChangesNothing() {
        Check.sentence("nothing changes then");
        for (int f = 0; f <= 1; f++) {
            int function = f;
            Twins.unchanged("call(0, " + f + ", 6, 2)", EdgeCallTest::busyAndDenied,
                host -> call(host, 0, function, 6, 2, PluginHost.BLOCKED));
            Twins.unchanged("call(2, " + f + ", 6, 0)", EdgeCallTest::busyAndDenied,
                host -> call(host, 2, function, 6, 0, PluginHost.BLOCKED));
        }
        PluginHost host = busyAndDenied();
        call(host, 0, 0, 6, 2, PluginHost.BLOCKED);
        Check.due("unrule()", host.unrule(), true);
        call(host, 0, 0, 6, 2, PluginHost.RETURNED);
        Check.due("left(0)", host.left(0), 100 - 9 - 9);
    }

    private static void divideByZero() {
        Check.sentence("DIV by 0 ends the call with DIVIDE");
        int[] divide = Plugins.function(2, 0, LOAD, 0, LOAD, 1, DIV, RETURN);
        int[] within = Plugins.function(2, 0, LOAD, 0, LOAD, 1, CALL, 0, POP, PUSH, 1, RETURN);
        PluginHost host = Plugins.hostWith(2000, Plugins.plugin(Plugins.NO_IMPORTS, divide, within));
        for (int value : new int[] {MIN, -1, 0, 1, MAX}) {
            Plugins.call("by 0", host, 0, value, 0, PluginHost.DIVIDE, 0);
            Plugins.call("by 0 within", host, 1, value, 0, PluginHost.DIVIDE, 0);
            for (int by : new int[] {MIN, -1, 1, MAX, 65536}) {
                Plugins.call("by " + by + " within", host, 1, value, by, PluginHost.RETURNED, 1);
            }
        }
    }

    private static void deep() {
        Check.sentence("a CALL while 6 activations are there ends it with DEEP");
        for (int calls = 0; calls <= 10; calls++) {
            PluginHost host = Plugins.hostWith(2000, Plugins.plugin(Plugins.NO_IMPORTS, DOWN));
            boolean fits = calls <= 5;
            Plugins.call(calls + " CALLs", host, 0, calls, 0, fits ? PluginHost.RETURNED : PluginHost.DEEP, fits ? 42 : 0);
            Check.due("peek(0, 0)", host.peek(0, 0), fits ? calls + 1 : 6);
            // The block of the CALL that ends it is paid for.
            Check.due("left(0)", host.left(0), 2000 - (fits ? 11 * calls + 8 : 60));
        }
        int[] endless = Plugins.plugin(Plugins.NO_IMPORTS, Plugins.function(0, 0, CALL, 0, RETURN));
        for (int quota = 0; quota <= 8; quota++) {
            PluginHost host = Plugins.hostWith(quota, endless);
            Plugins.call("an endless CALL with quota " + quota, host, 0, 0, 0, quota < 6 ? PluginHost.QUOTA : PluginHost.DEEP, 0);
            Check.due("left(0)", host.left(0), quota < 6 ? 0 : quota - 6);
        }
    }

    private static void thisCallIsAnActivation() {
        Check.sentence("This call is an activation.");
        PluginHost host = Plugins.hostWith(2000, Plugins.plugin(Plugins.NO_IMPORTS, DOWN));
        // An activation that was left, in whatever way, is there no more.
        for (int round = 0; round < 4; round++) {
            Plugins.call("5 CALLs", host, 0, 5, 0, PluginHost.RETURNED, 42);
            Plugins.call("6 CALLs", host, 0, 6, 0, PluginHost.DEEP, 0);
        }
        int[] twice = Plugins.function(1, 0, LOAD, 0, CALL, 0, POP, LOAD, 0, CALL, 0, RETURN);
        host = Plugins.hostWith(2000, Plugins.plugin(Plugins.NO_IMPORTS, DOWN, twice));
        Plugins.call("4 CALLs, twice, from within", host, 1, 4, 0, PluginHost.RETURNED, 42);
        Plugins.call("5 CALLs from within", host, 1, 5, 0, PluginHost.DEEP, 0);
    }

    /** Each call sets static 0, asks the host and sets static 1 before it ends; static 2 would be set after that. */
    private static void doneStaysDone() {
        Check.sentence("What was done stays done.");
        int[] before = {PUSH, 5, GSET, 0, PUSH, 1, HOST, 0, GSET, 3, PUSH, 6, GSET, 1};
        int[][] endings = {{PUSH, 1, PUSH, 0, DIV, GSET, 2, PUSH, 1, RETURN}, {CALL, 0, GSET, 2, PUSH, 1, RETURN}};
        int[] wants = {PluginHost.DIVIDE, PluginHost.DEEP};
        for (int i = 0; i < 2; i++) {
            int[] code = java.util.Arrays.copyOf(before, before.length + endings[i].length);
            System.arraycopy(endings[i], 0, code, before.length, endings[i].length);
            PluginHost host = Plugins.hostWith(2000, Plugins.plugin(IMPORT, Plugins.function(0, 0, code)));
            Plugins.call("ending " + wants[i], host, 0, 0, 0, wants[i], 0);
            Check.due("peek(0, 0)", host.peek(0, 0), 5);
            Check.due("peek(0, 1)", host.peek(0, 1), 6);
            Check.due("peek(0, 2)", host.peek(0, 2), 0);
            Check.due("memory() is 0", host.memory() == 0, false);
            Check.due("left(0)", host.left(0), 2000 - (i == 0 ? 8 + 9 : 6 * (8 + 4)));
        }
        PluginHost host = Plugins.hostWith(12, Plugins.plugin(IMPORT, Plugins.function(0, 0, PUSH, 5, GSET, 0, PUSH, 1, HOST, 0,
            GSET, 3, PUSH, 6, GSET, 1, Plugins.JUMP, 0, PUSH, 7, GSET, 2, PUSH, 1, RETURN)));
        Plugins.call("ending QUOTA", host, 0, 0, 0, PluginHost.QUOTA, 0);
        Check.due("peek(0, 0)", host.peek(0, 0), 5);
        Check.due("peek(0, 1)", host.peek(0, 1), 6);
        Check.due("peek(0, 2)", host.peek(0, 2), 0);
        Check.due("memory()", host.memory(), 513);
        Check.due("left(0)", host.left(0), 0);
    }

    private static void resultAfterEachEnding() {
        Check.sentence("after RETURNED the answer, else 0");
        int[] divide = Plugins.function(2, 0, LOAD, 0, LOAD, 1, DIV, RETURN);
        int[] endless = Plugins.function(0, 0, Plugins.JUMP, 254);
        PluginHost host = Plugins.hostWith(2000, Plugins.plugin(Plugins.NO_IMPORTS, DOWN, divide, endless));
        for (int answer : new int[] {MIN, -1, 0, 1, MAX}) {
            Plugins.call("RETURNED", host, 1, answer, 1, PluginHost.RETURNED, answer);
            Plugins.call("DIVIDE", host, 1, answer, 0, PluginHost.DIVIDE, 0);
            Plugins.call("RETURNED", host, 1, answer, 1, PluginHost.RETURNED, answer);
            Plugins.call("DEEP", host, 0, 6, 0, PluginHost.DEEP, 0);
        }
        Plugins.call("RETURNED", host, 1, 9, 1, PluginHost.RETURNED, 9);
        Plugins.call("QUOTA", host, 2, 0, 0, PluginHost.QUOTA, 0);
        Plugins.call("QUOTA before the first block", host, 1, 9, 1, PluginHost.QUOTA, 0);
    }

    private static void resultOfNone() {
        Check.sentence("0 if there was none");
        PluginHost host = Plugins.hostWith(9, Plugins.plugin(IMPORT, Plugins.function(0, 0, PUSH, 7, RETURN)));
        Check.due("result()", host.result(), 0);
        call(host, 1, 0, 0, 0, PluginHost.REFUSED);
        Check.due("result()", host.result(), 0);
        Check.due("unrule()", host.unrule(), true);
        call(host, 0, 0, 0, 0, PluginHost.BLOCKED);
        Check.due("result()", host.result(), 0);
    }

    private static void resultAfterRefusals() {
        Check.sentence("Of the latest call that was neither REFUSED nor BLOCKED");
        PluginHost host = Plugins.hostWith(5, Plugins.plugin(IMPORT, Plugins.function(0, 0, PUSH, 7, RETURN)));
        for (int round = 0; round < 3; round++) {
            int want = round < 2 ? 7 : 0;
            call(host, 0, 0, 0, 0, round < 2 ? PluginHost.RETURNED : PluginHost.QUOTA);
            call(host, 1, 0, 0, 0, PluginHost.REFUSED);
            Check.due("result() after REFUSED", host.result(), want);
            call(host, 0, 1, 0, 0, PluginHost.REFUSED);
            Check.due("result() after REFUSED", host.result(), want);
            Check.due("rule(0, 0, 0, 0)", host.rule(0, 0, 0, 0), true);
            call(host, 0, 0, 0, 0, PluginHost.BLOCKED);
            Check.due("result() after BLOCKED", host.result(), want);
            Check.due("unrule()", host.unrule(), true);
        }
    }

    private static void memoryStays() {
        Check.sentence("The host's memory.");
        int[] plugin = Plugins.plugin(IMPORT, Plugins.function(1, 0, LOAD, 0, HOST, 0, RETURN));
        PluginHost host = Plugins.hostWith(7, plugin);
        call(host, 0, 0, 0, 0, PluginHost.RETURNED);
        Check.due("memory()", host.memory(), 1);
        call(host, 0, 0, 0, 0, PluginHost.QUOTA);
        call(host, 1, 0, 0, 0, PluginHost.REFUSED);
        Check.due("memory()", host.memory(), 1);
        Check.due("close(0)", host.close(0), true);
        Check.due("unload(0)", host.unload(0), true);
        Check.due("wipe()", host.wipe(), 0);
        Check.due("memory()", host.memory(), 1);
        Plugins.put(host, plugin);
        Check.due("submit()", host.submit(), PluginHost.ACCEPTED);
        Check.due("open(0, 7)", host.open(0, 7), 0);
        Check.due("memory()", host.memory(), 1);
        call(host, 0, 0, -1, 0, PluginHost.RETURNED);
        Check.due("memory()", host.memory(), 33 - 512 + 1);
    }

    private static void at512Calls() {
        Check.sentence("An object is used for at most 512 calls after it has been made");
        int[] plugin = Plugins.single(1, 0, GGET, 0, LOAD, 0, ADD, GSET, 0, GGET, 0, RETURN);
        PluginHost host = Plugins.hostWith(2000, plugin);
        int made = 1 + plugin.length + 2;
        int sum = 0;
        int left = 2000;
        while (made < 511) {
            boolean enough = left >= 6;
            left -= enough ? 6 : 0;
            sum += enough ? made : 0;
            call(host, 0, 0, made, 0, enough ? PluginHost.RETURNED : PluginHost.QUOTA);
            made++;
        }
        Check.due("peek(0, 0) as the 512th call", host.peek(0, 0), sum);
    }
}

/** Promises 7 and 8: BADCODE and BADJUMP and their places. */
public final class CodeTest {
    private static final int PUSH = Plugins.PUSH, LOAD = Plugins.LOAD, STORE = Plugins.STORE, POP = Plugins.POP;
    private static final int JUMP = Plugins.JUMP, JZERO = Plugins.JZERO, CALL = Plugins.CALL, HOST = Plugins.HOST;
    private static final int GGET = Plugins.GGET, GSET = Plugins.GSET, RETURN = Plugins.RETURN;
    private static final int[] GOOD = Plugins.function(0, 0, PUSH, 1, RETURN);

    public static void main(String[] args) {
        unknownBytes();
        missingOperands();
        locals();
        functions();
        imports();
        statics();
        badCodeComesInOrder();
        jumpsToNoInstruction();
        jumpsToInstructions();
        badJumpsComeInOrder();
        earlierSubmitsDoNotCount();
        Check.end();
    }

    private static void bad(String name, int place, int[] plugin) {
        Plugins.submit(name, plugin, PluginHost.BADCODE, place);
    }

    private static void good(String name, int[] plugin) {
        Plugins.submit(name, plugin, PluginHost.ACCEPTED, -1);
    }

    private static void unknownBytes() {
        for (int code = 17; code <= 255; code++) {
            bad("instruction " + code, 6, Plugins.single(0, 0, code));
            bad("instruction " + code + " that no way reaches", 9, Plugins.single(0, 0, PUSH, 1, RETURN, code));
        }
        good("an operand above 16", Plugins.single(0, 0, PUSH, 17, RETURN));
    }

    private static void missingOperands() {
        for (int code : new int[] {PUSH, LOAD, STORE, JUMP, JZERO, CALL, HOST, GGET, GSET}) {
            int[][] import0 = {{0, 0, 0}};
            int[] function = Plugins.function(1, 0, PUSH, 1, RETURN, code);
            bad("the last byte is " + code, 12, Plugins.plugin(import0, function));
            bad("the last byte before a function is " + code, 12, Plugins.plugin(import0, function, GOOD));
        }
        for (int code : new int[] {3, 4, 5, 6, 7, 8, 9, RETURN}) {
            good("the last byte is " + code, Plugins.single(0, 0, PUSH, 1, RETURN, code));
        }
    }

    private static void locals() {
        for (int parameters = 0; parameters <= 2; parameters++) {
            for (int further = 0; further <= 3; further++) {
                for (int b = 0; b <= 6; b++) {
                    boolean local = b < parameters + further;
                    String name = b + " of " + parameters + " and " + further;
                    int finding = local ? PluginHost.ACCEPTED : PluginHost.BADCODE;
                    Plugins.submit("LOAD " + name, Plugins.single(parameters, further, LOAD, b, RETURN), finding, local ? -1 : 6);
                    Plugins.submit("STORE " + name, Plugins.single(parameters, further, PUSH, 1, STORE, b, PUSH, 1, RETURN),
                        finding, local ? -1 : 8);
                }
            }
        }
        bad("LOAD 255", 6, Plugins.single(2, 3, LOAD, 255, RETURN));
        bad("another function's local", 12, Plugins.plugin(Plugins.NO_IMPORTS, Plugins.function(2, 0, LOAD, 1, RETURN),
            Plugins.function(1, 0, LOAD, 1, RETURN)));
    }

    private static void functions() {
        good("CALL of the function itself", Plugins.single(0, 0, CALL, 0, RETURN));
        good("CALL of a later function", Plugins.plugin(Plugins.NO_IMPORTS, Plugins.function(0, 0, CALL, 1, RETURN), GOOD));
        bad("CALL 1 of 1", 6, Plugins.single(0, 0, CALL, 1, RETURN));
        bad("CALL 2 of 2", 6, Plugins.plugin(Plugins.NO_IMPORTS, Plugins.function(0, 0, CALL, 2, RETURN), GOOD));
        bad("CALL 255", 6, Plugins.single(0, 0, CALL, 255, RETURN));
    }

    private static void imports() {
        int[] asks = Plugins.function(0, 0, PUSH, 1, HOST, 1, RETURN);
        bad("HOST 1 of 0", 8, Plugins.plugin(Plugins.NO_IMPORTS, asks));
        bad("HOST 1 of 1", 11, Plugins.plugin(new int[][] {{1, 1, 1}}, asks));
        good("HOST 1 of 2", Plugins.plugin(new int[][] {{1, 1, 1}, {2, 2, 2}}, asks));
        bad("HOST 0 of 0", 8, Plugins.single(0, 0, PUSH, 1, HOST, 0, RETURN));
    }

    private static void statics() {
        for (int s = 0; s <= 3; s++) {
            good("GGET " + s, Plugins.single(0, 0, GGET, s, RETURN));
            good("GSET " + s, Plugins.single(0, 0, PUSH, 1, GSET, s, PUSH, 1, RETURN));
        }
        for (int s : new int[] {4, 5, 128, 255}) {
            bad("GGET " + s, 6, Plugins.single(0, 0, GGET, s, RETURN));
            bad("GSET " + s, 8, Plugins.single(0, 0, PUSH, 1, GSET, s, PUSH, 1, RETURN));
        }
    }

    private static void badCodeComesInOrder() {
        bad("two in a function", 7, Plugins.single(0, 0, POP, 17, 18));
        bad("in two functions", 6, Plugins.plugin(Plugins.NO_IMPORTS, Plugins.function(0, 0, 20), Plugins.function(0, 0, 17)));
        bad("before a bad jump of an earlier function", 11,
            Plugins.plugin(Plugins.NO_IMPORTS, Plugins.function(0, 0, JUMP, 9), Plugins.function(0, 0, 17)));
        bad("before a bad flow of an earlier function", 10,
            Plugins.plugin(Plugins.NO_IMPORTS, Plugins.function(0, 0, POP), Plugins.function(0, 0, 17)));
    }

    private static void jump(String name, int place, int... code) {
        int finding = place < 0 ? PluginHost.ACCEPTED : PluginHost.BADJUMP;
        Plugins.submit(name, Plugins.single(0, 0, code), finding, place);
        Plugins.submit(name + " before a function", Plugins.plugin(Plugins.NO_IMPORTS, Plugins.function(0, 0, code), GOOD),
            finding, place);
        int[] second = Plugins.plugin(Plugins.NO_IMPORTS, GOOD, Plugins.function(0, 0, code));
        Plugins.submit(name + " after a function", second, finding, place < 0 ? -1 : place + 6);
    }

    private static void jumpsToNoInstruction() {
        jump("JUMP into itself", 6, JUMP, 255, PUSH, 1, RETURN);
        jump("JUMP before the code", 6, JUMP, 253, PUSH, 1, RETURN);
        jump("JUMP onto an operand", 6, JUMP, 1, PUSH, 1, RETURN);
        jump("JUMP past the end", 6, JUMP, 3, PUSH, 1, RETURN);
        jump("JUMP to another function's instruction", 6, JUMP, 6, PUSH, 1, RETURN);
        jump("JUMP back to another function's instruction", 6, JUMP, 250, PUSH, 1, RETURN);
        jump("JUMP far forward", 6, JUMP, 127, PUSH, 1, RETURN);
        jump("JUMP far back", 6, JUMP, 128, PUSH, 1, RETURN);
        jump("JZERO past the end", 8, PUSH, 0, JZERO, 3, PUSH, 1, RETURN);
        jump("JZERO onto an operand", 8, PUSH, 0, JZERO, 1, PUSH, 1, RETURN);
        jump("JZERO before the code", 8, PUSH, 0, JZERO, 251, PUSH, 1, RETURN);
        jump("JUMP that no way reaches", 9, PUSH, 1, RETURN, JUMP, 0);
        int[] full = new int[32];
        full[30] = JUMP;
        int[] last = Plugins.plugin(Plugins.NO_IMPORTS, Plugins.function(0, 0, new int[40]), Plugins.function(0, 0, new int[36]),
            Plugins.function(0, 0, full));
        Check.due("the bytes of the longest plugin", last.length, 120);
        Plugins.submit("JUMP past the 120th byte", last, PluginHost.BADJUMP, 118);
    }

    private static void jumpsToInstructions() {
        jump("JUMP to itself", -1, JUMP, 254);
        jump("JUMP to the next", -1, JUMP, 0, PUSH, 1, RETURN);
        jump("JUMP over one", -1, JUMP, 1, POP, PUSH, 1, RETURN);
        jump("JUMP to the last", -1, PUSH, 1, JUMP, 2, PUSH, 9, RETURN);
        jump("JZERO to the first", -1, PUSH, 0, JZERO, 252, PUSH, 1, RETURN);
        jump("JZERO to the next", -1, PUSH, 0, JZERO, 0, PUSH, 1, RETURN);
    }

    private static void badJumpsComeInOrder() {
        jump("two in a function", 6, JUMP, 9, JUMP, 9);
        Plugins.submit("in two functions", Plugins.plugin(Plugins.NO_IMPORTS, Plugins.function(0, 0, PUSH, 1, JZERO, 9),
            Plugins.function(0, 0, JUMP, 9)), PluginHost.BADJUMP, 8);
        Plugins.submit("before a bad flow of an earlier function", Plugins.plugin(Plugins.NO_IMPORTS,
            Plugins.function(0, 0, POP), Plugins.function(0, 0, JUMP, 9)), PluginHost.BADJUMP, 10);
    }

    /** The first plugin has an instruction where the second one has an operand. */
    private static void earlierSubmitsDoNotCount() {
        PluginHost host = new PluginHost();
        Plugins.put(host, Plugins.single(0, 0, PUSH, 1, Plugins.DUP, Plugins.DUP, Plugins.DUP, RETURN));
        Check.due("submit()", host.submit(), PluginHost.ACCEPTED);
        Plugins.put(host, Plugins.single(0, 0, JUMP, 1, PUSH, 1, RETURN));
        Check.due("submit()", host.submit(), PluginHost.BADJUMP);
        Check.due("place()", host.place(), 6);
    }
}

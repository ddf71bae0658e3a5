/** The edges of BADCODE and BADJUMP and their places. */
public final class EdgeCodeTest {
    private static final int PUSH = Plugins.PUSH, LOAD = Plugins.LOAD, STORE = Plugins.STORE, DUP = Plugins.DUP, POP = Plugins.POP;
    private static final int JUMP = Plugins.JUMP, JZERO = Plugins.JZERO, CALL = Plugins.CALL, HOST = Plugins.HOST;
    private static final int GGET = Plugins.GGET, GSET = Plugins.GSET, RETURN = Plugins.RETURN;
    private static final int ACCEPTED = PluginHost.ACCEPTED, BADCODE = PluginHost.BADCODE, BADJUMP = PluginHost.BADJUMP;
    private static final int[][] IMPORTS = {{0, 0, 0}, {1, 1, 1}, {2, 2, 2}, {3, 3, 3}};
    private static final int[] GOOD = Plugins.function(0, 0, PUSH, 1, RETURN);

    public static void main(String[] args) {
        bytesAbove16();
        missingB();
        noLocal();
        noFunction();
        noImport();
        noStatic();
        anyOtherB();
        badCodeInOrder();
        badCodeBeforeBadJump();
        targets();
        farthestTargets();
        targetsInOtherFunctions();
        badJumpsInOrder();
        Check.end();
    }

    /** The code as each of four functions, beside three good ones; offset is that of the fault in the code, or -1. */
    private static void code(String name, int finding, int offset, int parameters, int further, int... code) {
        for (int f = 0; f < 4; f++) {
            int[][] functions = {GOOD, GOOD, GOOD, GOOD};
            functions[f] = Plugins.function(parameters, further, code);
            int first = 3 + f * GOOD.length + 3;
            Plugins.submit(name + " in function " + f, Plugins.plugin(Plugins.NO_IMPORTS, functions), finding,
                offset < 0 ? -1 : first + offset);
        }
    }

    private static void bytesAbove16() {
        Check.sentence("BADCODE at an instruction whose byte is above 16");
        for (int b = 0; b <= 255; b++) {
            if (b > 16) {
                code("first instruction " + b, BADCODE, 0, 0, 0, b, PUSH, 1, RETURN);
                code("instruction " + b + " that no way reaches", BADCODE, 3, 0, 0, PUSH, 1, RETURN, b, 0);
            }
        }
        code("instruction 16", ACCEPTED, -1, 0, 0, PUSH, 1, 16);
        code("instruction 17", BADCODE, 2, 0, 0, PUSH, 1, 17);
        for (int b = 0; b <= 16; b++) {
            int[] plugin = Plugins.plugin(IMPORTS, Plugins.function(1, 0, PUSH, 1, RETURN, b, 0, RETURN));
            // A JUMP or JZERO by 0 goes to the RETURN; without a b the 0 begins a PUSH that takes the RETURN's byte.
            Plugins.submit("instruction " + b + " that no way reaches", plugin, ACCEPTED, -1);
        }
    }

    private static void missingB() {
        Check.sentence("whose b is missing in the function's code");
        for (int b = 0; b <= 16; b++) {
            boolean hasB = b <= STORE || b >= JUMP && b <= GSET;
            code("the last byte is " + b, hasB ? BADCODE : ACCEPTED, hasB ? 3 : -1, 1, 0, PUSH, 1, RETURN, b);
            if (hasB) {
                code("the only byte is " + b, BADCODE, 0, 1, 0, b);
            }
        }
        int[] full = Plugins.codeOf(40);
        full[39] = PUSH;
        code("the 40th byte", BADCODE, 39, 0, 0, full);
        int[] longest = Plugins.longest();
        longest[119] = GGET;
        Plugins.submit("the 120th byte", longest, BADCODE, 119);
    }

    private static void noLocal() {
        Check.sentence("or whose b isn't a local (LOAD, STORE)");
        for (int parameters = 0; parameters <= 2; parameters++) {
            for (int further = 0; further <= 3; further++) {
                int count = parameters + further;
                String name = " of " + count + " locals";
                for (int b : new int[] {count, count + 1, 5, 127, 128, 255}) {
                    code("LOAD " + b + name, BADCODE, 2, parameters, further, PUSH, 1, LOAD, b, RETURN);
                    code("STORE " + b + name, BADCODE, 4, parameters, further, PUSH, 1, PUSH, 1, STORE, b, RETURN);
                }
                for (int b = 0; b < count; b++) {
                    code("LOAD " + b + name, ACCEPTED, -1, parameters, further, PUSH, 1, LOAD, b, RETURN);
                    code("STORE " + b + name, ACCEPTED, -1, parameters, further, PUSH, 1, PUSH, 1, STORE, b, RETURN);
                }
            }
        }
    }

    private static void noFunction() {
        Check.sentence("a function (CALL)");
        for (int count = 1; count <= 4; count++) {
            for (int b : new int[] {0, 1, 2, 3, 4, 5, 127, 128, 255}) {
                int[][] functions = {GOOD, GOOD, GOOD, GOOD};
                functions[count - 1] = Plugins.function(0, 0, CALL, b, RETURN);
                int[] plugin = Plugins.plugin(Plugins.NO_IMPORTS, java.util.Arrays.copyOf(functions, count));
                int first = 3 + (count - 1) * GOOD.length + 3;
                Plugins.submit("CALL " + b + " of " + count, plugin, b < count ? ACCEPTED : BADCODE, b < count ? -1 : first);
            }
        }
    }

    private static void noImport() {
        Check.sentence("an import (HOST)");
        for (int count = 0; count <= 4; count++) {
            for (int b : new int[] {0, 1, 2, 3, 4, 5, 127, 128, 255}) {
                int[] plugin = Plugins.plugin(java.util.Arrays.copyOf(IMPORTS, count), Plugins.function(0, 0, PUSH, 1, HOST, b, RETURN));
                int at = 3 + 3 * count + 3 + 2;
                Plugins.submit("HOST " + b + " of " + count, plugin, b < count ? ACCEPTED : BADCODE, b < count ? -1 : at);
            }
        }
    }

    private static void noStatic() {
        Check.sentence("or 0..3 (GGET, GSET)");
        for (int b = 0; b <= 255; b++) {
            boolean good = b <= 3;
            code("GGET " + b, good ? ACCEPTED : BADCODE, good ? -1 : 0, 0, 0, GGET, b, RETURN);
            code("GSET " + b, good ? ACCEPTED : BADCODE, good ? -1 : 4, 0, 0, PUSH, 1, PUSH, 1, GSET, b, RETURN);
        }
    }

    private static void anyOtherB() {
        Check.sentence("(place: the instruction's first byte)");
        for (int b = 0; b <= 255; b++) {
            // Any b will do for a PUSH; a JUMP's or JZERO's b is looked at as a jump, not as code.
            code("PUSH " + b, ACCEPTED, -1, 0, 0, PUSH, b, RETURN);
            code("JUMP " + b + ", then 17", BADCODE, 2, 0, 0, JUMP, b, 17);
            code("JZERO " + b + ", then LOAD 0 of none", BADCODE, 2, 0, 0, JZERO, b, LOAD, 0);
        }
    }

    private static void badCodeInOrder() {
        Check.sentence("function by function, instruction by instruction");
        int[] bad = Plugins.function(0, 0, PUSH, 1, GGET, 4, 17, CALL, 9);
        for (int f = 0; f < 4; f++) {
            int[][] functions = {GOOD, GOOD, GOOD, GOOD};
            for (int later = f; later < 4; later++) {
                functions[later] = bad;
            }
            int first = 3 + f * GOOD.length + 3;
            Plugins.submit("bad from function " + f + " on", Plugins.plugin(Plugins.NO_IMPORTS, functions), BADCODE, first + 2);
        }
    }

    private static void badCodeBeforeBadJump() {
        Check.sentence("Then, if no function has one: BADJUMP");
        int[] jumps = Plugins.function(0, 0, JUMP, 99);
        for (int f = 1; f < 4; f++) {
            int[][] functions = {jumps, GOOD, GOOD, GOOD};
            functions[f] = Plugins.function(0, 0, PUSH, 1, 17);
            int first = 3 + jumps.length + (f - 1) * GOOD.length + 3;
            Plugins.submit("a bad jump before bad code", Plugins.plugin(Plugins.NO_IMPORTS, functions), BADCODE, first + 2);
        }
        code("a bad jump before bad code in one function", BADCODE, 2, 0, 0, JUMP, 99, 17);
        Plugins.submit("a bad jump alone", Plugins.plugin(Plugins.NO_IMPORTS, jumps, GOOD), BADJUMP, 6);
    }

    /** Every b of a jump in the midst of its function: only the places of instructions are good. */
    private static void targets() {
        Check.sentence("BADJUMP at a JUMP or JZERO that goes to no instruction of its function (place: its first byte)");
        for (int b = 0; b <= 255; b++) {
            int target = 6 + (byte) b;
            boolean good = target == 0 || target == 2 || target == 4 || target == 6 || target == 7 || target == 8 || target == 10;
            checkJump("JUMP " + b, good, PUSH, 1, GSET, 0, JUMP, b, DUP, POP, PUSH, 2, RETURN);
            checkJump("JZERO " + b, good, PUSH, 1, PUSH, 1, JZERO, b, DUP, POP, PUSH, 2, RETURN);
        }
    }

    /** The jump is at 4; where it is good its height may still be a wrong one. */
    private static void checkJump(String name, boolean good, int... code) {
        for (int f = 0; f < 4; f++) {
            int[][] functions = {GOOD, GOOD, GOOD, GOOD};
            functions[f] = Plugins.function(0, 0, code);
            PluginHost host = new PluginHost();
            Plugins.put(host, Plugins.plugin(Plugins.NO_IMPORTS, functions));
            Check.due(name + " in function " + f + " is a BADJUMP", host.submit() == BADJUMP, !good);
            if (!good) {
                Check.due(name + " in function " + f + ": place()", host.place(), 6 + f * GOOD.length + 4);
            }
        }
    }

    private static void farthestTargets() {
        Check.sentence("on to: the byte after this instruction + b as a signed byte");
        int[] forward = new int[40];
        java.util.Arrays.fill(forward, POP);
        forward[0] = JUMP;
        forward[1] = 36;
        forward[38] = JUMP;
        forward[39] = 216;
        code("on to the last instruction and back to the first", ACCEPTED, -1, 0, 0, forward);
        forward[39] = 215;
        code("back by one more", BADJUMP, 38, 0, 0, forward);
        forward[39] = 216;
        forward[1] = 37;
        code("on to the last instruction's b", BADJUMP, 0, 0, 0, forward);
        forward[1] = 38;
        code("on to the end", BADJUMP, 0, 0, 0, forward);
        for (int b : new int[] {127, 128, 129}) {
            forward[1] = b;
            code("on by " + b, BADJUMP, 0, 0, 0, forward);
        }
        code("to itself", ACCEPTED, -1, 0, 0, JUMP, 254);
        code("to its own b", BADJUMP, 0, 0, 0, JUMP, 255);
        code("to the next", ACCEPTED, -1, 0, 0, JUMP, 0, PUSH, 1, RETURN);
        code("to the end, the next", BADJUMP, 3, 0, 0, PUSH, 1, RETURN, JUMP, 0);
    }

    private static void targetsInOtherFunctions() {
        Check.sentence("goes to no instruction of its function");
        // Heads have 3 bytes and GOOD has 3 of code, so these go to the first or last instruction of the other function.
        int[] before = Plugins.plugin(Plugins.NO_IMPORTS, Plugins.function(0, 0, JUMP, 3), GOOD);
        Plugins.submit("to the first instruction of the function after", before, BADJUMP, 6);
        jumpBehindGood("to the first instruction of the function before", 248);
        jumpBehindGood("to the RETURN of the function before", 250);
        jumpBehindGood("to the function's own head", 251);
        jumpBehindGood("to the length of the function's own code", 253);
        Plugins.submit("to the plugin's first byte", Plugins.single(0, 0, JUMP, 248), BADJUMP, 6);
        Plugins.submit("before the plugin's first byte", Plugins.single(0, 0, JUMP, 247), BADJUMP, 6);
        int[] longest = Plugins.longest();
        longest[117] = JUMP;
        longest[118] = 1;
        longest[116] = DUP;
        Plugins.submit("past the 120th byte", longest, BADJUMP, 117);
    }

    private static void jumpBehindGood(String name, int b) {
        Plugins.submit(name, Plugins.plugin(Plugins.NO_IMPORTS, GOOD, Plugins.function(0, 0, JUMP, b)), BADJUMP, 12);
    }

    private static void badJumpsInOrder() {
        Check.sentence("BADJUMP (place: its first byte), the first one");
        int[] bad = Plugins.function(0, 0, PUSH, 1, JZERO, 100, JUMP, 100);
        for (int f = 0; f < 4; f++) {
            int[][] functions = {GOOD, GOOD, GOOD, GOOD};
            for (int later = f; later < 4; later++) {
                functions[later] = bad;
            }
            int first = 3 + f * GOOD.length + 3;
            Plugins.submit("bad from function " + f + " on", Plugins.plugin(Plugins.NO_IMPORTS, functions), BADJUMP, first + 2);
        }
    }
}

import java.util.Arrays;

/** The edges of BADFLOW and its place. */
public final class EdgeFlowTest {
    private static final int PUSH = Plugins.PUSH, LOAD = Plugins.LOAD, STORE = Plugins.STORE, ADD = Plugins.ADD, LESS = Plugins.LESS;
    private static final int DIV = Plugins.DIV, DUP = Plugins.DUP, POP = Plugins.POP, JUMP = Plugins.JUMP, JZERO = Plugins.JZERO;
    private static final int CALL = Plugins.CALL, HOST = Plugins.HOST, GGET = Plugins.GGET, GSET = Plugins.GSET;
    private static final int RETURN = Plugins.RETURN;
    private static final int[][] IMPORT = {{0, 0, 0}};
    /** Functions 1 and 2, with as many parameters as their numbers say, and function 3, without any. */
    private static final int[] ONE = Plugins.function(1, 0, LOAD, 0, RETURN), TWO = Plugins.function(2, 0, LOAD, 1, RETURN);
    private static final int[] NONE = Plugins.function(0, 0, PUSH, 1, RETURN);

    public static void main(String[] args) {
        tooFewEntries();
        numberAfterEach();
        noRoom();
        pastTheLastByte();
        differentNumbers();
        bothDirections();
        unreachedInstructions();
        placeOfTheFunction();
        Check.end();
    }

    private static void flow(String name, boolean holds, int... code) {
        Plugins.submit(name, Plugins.plugin(IMPORT, Plugins.function(1, 0, code), ONE, TWO, NONE),
            holds ? PluginHost.ACCEPTED : PluginHost.BADFLOW, holds ? -1 : 9);
    }

    /** So many entries, then the instruction, then an endless loop, which has no needs of its own. */
    private static int[] reachedWith(int entries, int... instruction) {
        int[] code = new int[2 * entries + instruction.length + 2];
        System.arraycopy(instruction, 0, code, 2 * entries, instruction.length);
        code[code.length - 2] = JUMP;
        code[code.length - 1] = 254;
        return code;
    }

    private static void needs(String name, int least, int... instruction) {
        for (int entries = 0; entries <= 5; entries++) {
            flow(name + " with " + entries, entries >= least, reachedWith(entries, instruction));
        }
    }

    private static void tooFewEntries() {
        Check.sentence("BADFLOW if some way reaches an instruction with too few entries for it");
        needs("PUSH", 0, PUSH, 1);
        needs("LOAD", 0, LOAD, 0);
        needs("STORE", 1, STORE, 0);
        for (int code = ADD; code <= LESS; code++) {
            needs("instruction " + code, 2, code);
        }
        needs("DUP", 1, DUP);
        needs("POP", 1, POP);
        needs("JUMP", 0, JUMP, 0);
        needs("JZERO", 1, JZERO, 0);
        needs("CALL without parameters", 0, CALL, 3);
        needs("CALL with 1 parameter", 1, CALL, 1);
        needs("CALL with 2 parameters", 2, CALL, 2);
        needs("HOST", 1, HOST, 0);
        needs("GGET", 0, GGET, 0);
        needs("GSET", 1, GSET, 0);
        needs("RETURN", 1, RETURN);
    }

    /** From four entries the instruction leads to so many: as many POPs hold, one more doesn't. */
    private static void leaves(String name, int left, int... instruction) {
        for (int pops = left; pops <= left + 1; pops++) {
            int[] code = Arrays.copyOf(instruction, instruction.length + pops);
            Arrays.fill(code, instruction.length, code.length, POP);
            flow(name + " and " + pops + " POPs", pops == left, reachedWith(4, code));
        }
    }

    private static void numberAfterEach() {
        Check.sentence("BADFLOW if some way reaches an instruction with too few entries: what the instructions before it take and add");
        leaves("PUSH", 5, PUSH, 1);
        leaves("LOAD", 5, LOAD, 0);
        leaves("STORE", 3, STORE, 0);
        for (int code = ADD; code <= LESS; code++) {
            leaves("instruction " + code, 3, code);
        }
        leaves("DUP", 5, DUP);
        leaves("POP", 3, POP);
        leaves("JUMP", 4, JUMP, 0);
        leaves("JZERO", 3, JZERO, 0);
        leaves("CALL without parameters", 5, CALL, 3);
        leaves("CALL with 1 parameter", 4, CALL, 1);
        leaves("CALL with 2 parameters", 3, CALL, 2);
        leaves("HOST", 4, HOST, 0);
        leaves("GGET", 5, GGET, 0);
        leaves("GSET", 3, GSET, 0);
    }

    private static void withSix(String name, boolean holds, int... instruction) {
        flow(name + " with 6", holds, reachedWith(6, instruction));
        flow(name + " with 5", true, reachedWith(5, instruction));
    }

    private static void noRoom() {
        Check.sentence("or with 6 where it adds one");
        withSix("PUSH", false, PUSH, 1);
        withSix("LOAD", false, LOAD, 0);
        withSix("DUP", false, DUP);
        withSix("GGET", false, GGET, 0);
        withSix("CALL without parameters", false, CALL, 3);
        withSix("CALL with 1 parameter", true, CALL, 1);
        withSix("CALL with 2 parameters", true, CALL, 2);
        withSix("HOST", true, HOST, 0);
        withSix("STORE", true, STORE, 0);
        withSix("GSET", true, GSET, 0);
        withSix("POP", true, POP);
        withSix("JUMP", true, JUMP, 0);
        withSix("JZERO", true, JZERO, 0);
        withSix("RETURN", true, RETURN);
        for (int code = ADD; code <= LESS; code++) {
            withSix("instruction " + code, true, code);
        }
    }

    private static void pastTheLastByte() {
        Check.sentence("goes on past the function's last byte");
        int[][] instructions = {{PUSH, 1}, {LOAD, 0}, {STORE, 0}, {ADD}, {LESS}, {DUP}, {POP}, {CALL, 1}, {CALL, 3}, {HOST, 0},
            {GGET, 0}, {GSET, 0}};
        for (int[] instruction : instructions) {
            int[] code = reachedWith(3, instruction);
            String name = "instruction " + instruction[0];
            flow(name + " before the last one", true, code);
            flow(name + " as the last one", false, Arrays.copyOf(code, code.length - 2));
        }
        flow("RETURN as the last one", true, PUSH, 1, RETURN);
        flow("JUMP as the last one", true, JUMP, 254);
        flow("JZERO as the last one", false, PUSH, 1, JZERO, 252);
        flow("JZERO before the last one", true, PUSH, 1, JZERO, 252, JUMP, 254);
        int[] full = Plugins.codeOf(40);
        flow("40 bytes of code", true, full);
        full[39] = POP;
        flow("40 bytes of code without a RETURN", false, full);
        int[] longest = Plugins.longest();
        longest[119] = DUP;
        Plugins.submit("past the 120th byte", longest, PluginHost.BADFLOW, 95);
    }

    private static void differentNumbers() {
        Check.sentence("or if two ways reach an instruction with different numbers of entries");
        flow("the same number", true, LOAD, 0, JZERO, 4, PUSH, 1, JUMP, 2, PUSH, 2, RETURN);
        flow("one more by falling through", false, PUSH, 1, LOAD, 0, JZERO, 2, PUSH, 1, RETURN);
        flow("one fewer by falling through", false, PUSH, 1, PUSH, 1, LOAD, 0, JZERO, 1, POP, RETURN);
        flow("0 and 1", false, LOAD, 0, JZERO, 2, PUSH, 1, JUMP, 254);
        flow("5 and 6", false, PUSH, 1, DUP, DUP, DUP, DUP, LOAD, 0, JZERO, 1, DUP, RETURN);
        flow("6 and 6", true, PUSH, 1, DUP, DUP, DUP, DUP, LOAD, 0, JZERO, 3, DUP, JUMP, 1, DUP, RETURN);
        flow("back to the first instruction with none", true, PUSH, 1, POP, JUMP, 251);
        flow("back to the first instruction with one", false, PUSH, 1, JUMP, 252);
        flow("a JZERO to itself", false, PUSH, 1, PUSH, 1, JZERO, 254, JUMP, 254);
        flow("a JUMP to itself", true, PUSH, 1, JUMP, 254);
        flow("two ways into an endless loop", false, LOAD, 0, JZERO, 4, PUSH, 1, JUMP, 254, JUMP, 252);
    }

    private static void bothDirections() {
        Check.sentence("along all ways from its first instruction (JZERO in both directions, whatever the values are)");
        for (int value : new int[] {0, 1, 255}) {
            flow("the fault lies where PUSH " + value + ", JZERO goes to", false, PUSH, value, JZERO, 3, PUSH, 1, RETURN, RETURN);
            flow("the fault lies after PUSH " + value + ", JZERO", false, PUSH, value, JZERO, 1, RETURN, PUSH, 1, RETURN);
        }
        flow("a DIV by 0 is gone past", false, PUSH, 1, PUSH, 0, DIV, POP, RETURN);
        flow("an endless CALL is gone past", false, LOAD, 0, CALL, 0, POP, RETURN);
        flow("an endless loop with a way out", false, LOAD, 0, JZERO, 2, JUMP, 250, RETURN);
    }

    private static void unreachedInstructions() {
        Check.sentence("some way reaches an instruction");
        flow("too few entries behind a RETURN", true, PUSH, 1, RETURN, RETURN);
        flow("too few entries behind a JUMP", true, JUMP, 1, POP, PUSH, 1, RETURN);
        flow("no room behind a RETURN", true, PUSH, 1, RETURN, DUP, DUP, DUP, DUP, DUP, DUP, RETURN);
        flow("an end behind a RETURN", true, PUSH, 1, RETURN, DUP);
        flow("another number from behind a RETURN", true, PUSH, 1, RETURN, PUSH, 1, PUSH, 1, JUMP, 247);
    }

    private static void placeOfTheFunction() {
        Check.sentence("function by function (place: the function's first code byte)");
        int[] bad = Plugins.function(0, 0, PUSH, 1, POP, POP, PUSH, 1, RETURN);
        for (int imports = 0; imports <= 4; imports++) {
            for (int f = 0; f < 4; f++) {
                int[][] functions = {NONE, NONE, NONE, NONE};
                for (int later = f; later < 4; later++) {
                    functions[later] = bad;
                }
                int[] plugin = Plugins.plugin(new int[imports][3], functions);
                int first = 3 + 3 * imports + f * NONE.length + 3;
                Plugins.submit("bad from function " + f + " on", plugin, PluginHost.BADFLOW, first);
            }
        }
    }
}

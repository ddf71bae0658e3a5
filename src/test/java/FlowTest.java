/** Promises 7 and 8: BADFLOW and its place. */
public final class FlowTest {
    private static final int PUSH = Plugins.PUSH, LOAD = Plugins.LOAD, STORE = Plugins.STORE, ADD = Plugins.ADD;
    private static final int DUP = Plugins.DUP, POP = Plugins.POP, JUMP = Plugins.JUMP, JZERO = Plugins.JZERO;
    private static final int CALL = Plugins.CALL, HOST = Plugins.HOST, GGET = Plugins.GGET, GSET = Plugins.GSET;
    private static final int RETURN = Plugins.RETURN;
    private static final int[][] IMPORT = {{0, 0, 0}};

    public static void main(String[] args) {
        entriesNeeded();
        roomForSix();
        callsNeedTheirParameters();
        pastTheLastByte();
        differentHeights();
        unreachedCodeIsFree();
        valuesDoNotCount();
        flowsComeInOrder();
        Check.end();
    }

    /** The code as the first function, beside functions with 1, 2 and 0 parameters. */
    private static void flow(String name, boolean holds, int... code) {
        int[] plugin = Plugins.plugin(IMPORT, Plugins.function(1, 0, code), Plugins.function(1, 0, LOAD, 0, RETURN),
            Plugins.function(2, 0, LOAD, 1, RETURN), Plugins.function(0, 0, PUSH, 1, RETURN));
        Plugins.submit(name, plugin, holds ? PluginHost.ACCEPTED : PluginHost.BADFLOW, holds ? -1 : 9);
    }

    private static int[] joined(int[]... pieces) {
        int length = 0;
        for (int[] piece : pieces) {
            length += piece.length;
        }
        int[] all = new int[length];
        int at = 0;
        for (int[] piece : pieces) {
            System.arraycopy(piece, 0, all, at, piece.length);
            at += piece.length;
        }
        return all;
    }

    private static int[] pushes(int count) {
        return new int[2 * count];
    }

    /** Whether the instruction can be reached with the given entries, and what it leaves, both measured by what fits after it. */
    private static void instruction(String name, int takes, int gives, int... instruction) {
        for (int before = 0; before <= 6; before++) {
            int after = before - takes + gives;
            boolean holds = before >= takes && after <= 6;
            String with = name + " with " + before;
            flow(with, holds, joined(pushes(before), instruction, pushes(1 - Math.min(1, Math.max(after, 0))), new int[] {RETURN}));
            if (holds) {
                int[] pops = new int[after];
                java.util.Arrays.fill(pops, POP);
                flow(with + ", all taken off", true, joined(pushes(before), instruction, pops, new int[] {PUSH, 1, RETURN}));
                flow(with + ", one more taken off", false,
                    joined(pushes(before), instruction, pops, new int[] {POP, PUSH, 1, RETURN}));
                flow(with + ", filled up", true, joined(pushes(before), instruction, pushes(6 - after), new int[] {RETURN}));
                flow(with + ", one over", false, joined(pushes(before), instruction, pushes(7 - after), new int[] {RETURN}));
            }
        }
    }

    private static void entriesNeeded() {
        instruction("PUSH", 0, 1, PUSH, 1);
        instruction("LOAD", 0, 1, LOAD, 0);
        instruction("STORE", 1, 0, STORE, 0);
        for (int code = ADD; code <= Plugins.LESS; code++) {
            instruction("instruction " + code, 2, 1, code);
        }
        instruction("DUP", 1, 2, DUP);
        instruction("POP", 1, 0, POP);
        instruction("JUMP", 0, 0, JUMP, 0);
        instruction("JZERO", 1, 0, JZERO, 0);
        instruction("HOST", 1, 1, HOST, 0);
        instruction("GGET", 0, 1, GGET, 3);
        instruction("GSET", 1, 0, GSET, 3);
        flow("RETURN with 0", false, RETURN);
        flow("RETURN with 1", true, PUSH, 1, RETURN);
        flow("RETURN with 6", true, joined(pushes(6), new int[] {RETURN}));
    }

    private static void roomForSix() {
        flow("6 entries", true, PUSH, 1, DUP, DUP, DUP, DUP, DUP, RETURN);
        flow("7 entries", false, PUSH, 1, DUP, DUP, DUP, DUP, DUP, DUP, RETURN);
        flow("a loop that adds", false, PUSH, 1, JUMP, 252);
        flow("a loop that takes", false, PUSH, 1, PUSH, 1, POP, JUMP, 253);
    }

    private static void callsNeedTheirParameters() {
        instruction("CALL with 1 parameter", 1, 1, CALL, 1);
        instruction("CALL with 2 parameters", 2, 1, CALL, 2);
        instruction("CALL without parameters", 0, 1, CALL, 3);
    }

    private static void pastTheLastByte() {
        flow("PUSH at the end", false, PUSH, 1);
        flow("POP at the end", false, PUSH, 1, POP);
        flow("JZERO at the end", false, PUSH, 1, JZERO, 252);
        flow("CALL at the end", false, CALL, 3);
        flow("HOST at the end", false, PUSH, 1, HOST, 0);
        flow("GSET at the end", false, PUSH, 1, GSET, 0);
        flow("JUMP at the end", true, PUSH, 1, POP, JUMP, 251);
        flow("one way goes past the end", false, PUSH, 1, PUSH, 1, JZERO, 1, RETURN, DUP);
        Plugins.submit("past the end of the last function", Plugins.single(0, 0, PUSH, 1), PluginHost.BADFLOW, 6);
    }

    private static void differentHeights() {
        flow("two ways with the same height", true, LOAD, 0, JZERO, 4, PUSH, 1, JUMP, 2, PUSH, 2, RETURN);
        flow("two ways with different heights", false, LOAD, 0, JZERO, 2, PUSH, 1, PUSH, 2, RETURN);
        flow("a RETURN with 1 and 2", false, PUSH, 1, LOAD, 0, JZERO, 2, PUSH, 2, RETURN);
        flow("a loop that comes back higher", false, LOAD, 0, JZERO, 4, PUSH, 1, JUMP, 248, PUSH, 1, RETURN);
        flow("a loop that comes back the same", true, LOAD, 0, JZERO, 5, PUSH, 1, POP, JUMP, 247, PUSH, 1, RETURN);
        flow("a JUMP back to the start with an entry", false, PUSH, 1, DUP, JZERO, 251, RETURN);
        flow("the fault lies behind two JZEROs", false, LOAD, 0, JZERO, 3, PUSH, 1, RETURN, LOAD, 0, JZERO, 3, PUSH, 1, RETURN, RETURN);
    }

    private static void unreachedCodeIsFree() {
        flow("too few entries behind a RETURN", true, PUSH, 1, RETURN, ADD, POP);
        flow("too few entries behind a JUMP", true, JUMP, 1, POP, PUSH, 1, RETURN);
        flow("an unreached end", true, PUSH, 1, RETURN, PUSH, 1);
        flow("an unreached JUMP with another height", true, PUSH, 1, RETURN, PUSH, 1, JUMP, 249);
    }

    private static void valuesDoNotCount() {
        flow("JZERO on 1 goes on to a fault", false, PUSH, 1, JZERO, 3, PUSH, 1, RETURN, POP);
        flow("JZERO on 0 goes on to a fault", false, PUSH, 0, JZERO, 1, POP, PUSH, 1, RETURN);
        flow("a DIV by 0 goes on to a fault", false, PUSH, 1, PUSH, 0, Plugins.DIV, POP, POP);
    }

    private static void flowsComeInOrder() {
        int[] good = Plugins.function(0, 0, PUSH, 1, RETURN);
        int[] bad = Plugins.function(0, 0, PUSH, 1, POP, POP);
        Plugins.submit("in the second function", Plugins.plugin(Plugins.NO_IMPORTS, good, bad), PluginHost.BADFLOW, 12);
        Plugins.submit("in two functions", Plugins.plugin(Plugins.NO_IMPORTS, good, bad, bad), PluginHost.BADFLOW, 12);
        Plugins.submit("in the last function", Plugins.plugin(IMPORT, good, good, good, bad), PluginHost.BADFLOW, 27);
        PluginHost host = new PluginHost();
        Plugins.put(host, Plugins.plugin(IMPORT, bad));
        Check.due("submit() of a bad flow and a denied import", host.submit(), PluginHost.BADFLOW);
        Check.due("place()", host.place(), 9);
    }
}

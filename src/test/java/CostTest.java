/** Promises 13 and 15: the blocks, their cost, and calls that end with QUOTA. */
public final class CostTest {
    private static final int PUSH = Plugins.PUSH, LOAD = Plugins.LOAD, STORE = Plugins.STORE, ADD = Plugins.ADD;
    private static final int DIV = Plugins.DIV, POP = Plugins.POP, JUMP = Plugins.JUMP, JZERO = Plugins.JZERO;
    private static final int CALL = Plugins.CALL, HOST = Plugins.HOST, GGET = Plugins.GGET, GSET = Plugins.GSET;
    private static final int RETURN = Plugins.RETURN;
    private static final int[][] IMPORT = {{0, 0, 0}};

    public static void main(String[] args) {
        oneBlock();
        hostCostsMore();
        jumpsMakeBlocks();
        fallingIntoABlockEntersIt();
        unreachedJumpsMakeBlocks();
        codeAfterReturnIsABlock();
        callsMakeBlocks();
        endlessLoops();
        blocksArePaidBeforehand();
        quotaIsKeptBetweenCalls();
        everyPluginHasItsOwnBlocks();
        Check.end();
    }

    /** The costs of the blocks in the order they are entered; with every lesser quota the call ends before the block it lacks. */
    static void costs(String name, int[] plugin, int a, int... blocks) {
        int all = 0;
        for (int cost : blocks) {
            all += cost;
        }
        for (int quota = 0; quota <= all + 1; quota++) {
            int left = quota;
            boolean ends = true;
            for (int i = 0; i < blocks.length && ends; i++) {
                ends = left >= blocks[i];
                left -= ends ? blocks[i] : 0;
            }
            PluginHost host = Plugins.hostWith(quota, plugin);
            String call = name + " with quota " + quota;
            Check.due(call, host.call(0, 0, a, 0), ends ? PluginHost.RETURNED : PluginHost.QUOTA);
            Check.due(call + " and left(0)", host.left(0), left);
        }
    }

    private static void oneBlock() {
        costs("2 instructions", Plugins.single(0, 0, PUSH, 1, RETURN), 0, 2);
        costs("6 instructions", Plugins.single(1, 0, PUSH, 1, LOAD, 0, ADD, GSET, 0, GGET, 0, RETURN), 0, 6);
    }

    private static void hostCostsMore() {
        costs("a HOST", Plugins.plugin(IMPORT, Plugins.function(0, 0, PUSH, 1, HOST, 0, RETURN)), 0, 6, 1);
        costs("two HOSTs", Plugins.plugin(IMPORT, Plugins.function(0, 0, PUSH, 1, HOST, 0, HOST, 0, POP, PUSH, 1, RETURN)),
            0, 6, 5, 3);
        costs("a block before the HOST's", Plugins.plugin(IMPORT, Plugins.function(0, 0, PUSH, 1, JUMP, 0, HOST, 0, RETURN)),
            0, 2, 5, 1);
    }

    private static void jumpsMakeBlocks() {
        int[] either = Plugins.single(1, 0, LOAD, 0, JZERO, 3, PUSH, 5, RETURN, PUSH, 6, POP, PUSH, 7, RETURN);
        costs("JZERO not taken", either, 1, 2, 2);
        costs("JZERO taken", either, 0, 2, 4);
        costs("JUMP to the next", Plugins.single(0, 0, JUMP, 0, PUSH, 1, RETURN), 0, 1, 2);
        costs("JZERO to the next", Plugins.single(1, 0, LOAD, 0, JZERO, 0, PUSH, 1, RETURN), 1, 2, 2);
    }

    private static void fallingIntoABlockEntersIt() {
        int[] count = Plugins.single(1, 0, PUSH, 1, POP, LOAD, 0, PUSH, 255, ADD, STORE, 0, LOAD, 0, JZERO, 2, JUMP, 243, PUSH, 1, RETURN);
        costs("a loop into the midst", count, 1, 2, 6, 2);
        costs("a loop into the midst, twice", count, 2, 2, 6, 1, 6, 2);
        costs("a loop into the midst, three times", count, 3, 2, 6, 1, 6, 1, 6, 2);
    }

    private static void unreachedJumpsMakeBlocks() {
        costs("an unreached JUMP", Plugins.single(0, 0, PUSH, 1, POP, PUSH, 2, RETURN, JUMP, 250), 0, 1, 3);
        costs("an unreached JZERO", Plugins.single(0, 0, PUSH, 1, POP, PUSH, 2, RETURN, JZERO, 251), 0, 2, 2);
    }

    private static void codeAfterReturnIsABlock() {
        int[] plugin = Plugins.single(1, 0, LOAD, 0, JZERO, 3, PUSH, 5, RETURN, JUMP, 0, PUSH, 6, RETURN);
        costs("a block behind a RETURN", plugin, 0, 2, 1, 2);
    }

    private static void callsMakeBlocks() {
        int[] called = Plugins.function(0, 0, PUSH, 1, POP, PUSH, 1, RETURN);
        costs("a CALL", Plugins.plugin(Plugins.NO_IMPORTS, Plugins.function(0, 0, PUSH, 1, CALL, 1, ADD, PUSH, 1, RETURN), called),
            0, 2, 4, 3);
        costs("two CALLs", Plugins.plugin(Plugins.NO_IMPORTS, Plugins.function(0, 0, CALL, 1, CALL, 1, ADD, RETURN), called),
            0, 1, 4, 1, 4, 2);
        int[] asks = Plugins.function(1, 0, LOAD, 0, HOST, 0, RETURN);
        costs("a CALL and a HOST", Plugins.plugin(IMPORT, Plugins.function(0, 0, PUSH, 1, CALL, 1, RETURN), asks), 0, 2, 6, 1, 1);
    }

    private static void endlessLoops() {
        PluginHost host = Plugins.hostWith(2000, Plugins.single(0, 0, JUMP, 254));
        Plugins.call("an endless loop of cost 1", host, 0, 0, 0, PluginHost.QUOTA, 0);
        Check.due("left(0)", host.left(0), 0);
        Plugins.call("without any quota", host, 0, 0, 0, PluginHost.QUOTA, 0);
        Check.due("left(0)", host.left(0), 0);
        host = Plugins.hostWith(2000, Plugins.single(0, 0, PUSH, 1, POP, JUMP, 251));
        Plugins.call("an endless loop of cost 3", host, 0, 0, 0, PluginHost.QUOTA, 0);
        Check.due("left(0)", host.left(0), 2);
    }

    private static void blocksArePaidBeforehand() {
        int[] plugin = Plugins.single(1, 0, PUSH, 7, GSET, 0, PUSH, 1, LOAD, 0, DIV, GSET, 1, PUSH, 1, RETURN);
        PluginHost host = Plugins.hostWith(20, plugin);
        Plugins.call("a division by 0 in the midst", host, 0, 0, 0, PluginHost.DIVIDE, 0);
        Check.due("left(0)", host.left(0), 12);
        Check.due("peek(0, 0)", host.peek(0, 0), 7);
        host = Plugins.hostWith(7, plugin);
        Plugins.call("a block that can't be paid", host, 0, 1, 0, PluginHost.QUOTA, 0);
        Check.due("left(0)", host.left(0), 7);
        Check.due("peek(0, 0)", host.peek(0, 0), 0);
        int[] two = Plugins.single(0, 0, PUSH, 7, GSET, 0, JUMP, 0, PUSH, 8, GSET, 0, PUSH, 1, RETURN);
        host = Plugins.hostWith(6, two);
        Plugins.call("what was done stays done", host, 0, 0, 0, PluginHost.QUOTA, 0);
        Check.due("left(0)", host.left(0), 3);
        Check.due("peek(0, 0)", host.peek(0, 0), 7);
    }

    private static void quotaIsKeptBetweenCalls() {
        PluginHost host = Plugins.hostWith(5, Plugins.single(0, 0, PUSH, 1, RETURN));
        Plugins.call("first", host, 0, 0, 0, PluginHost.RETURNED, 1);
        Plugins.call("second", host, 0, 0, 0, PluginHost.RETURNED, 1);
        Check.due("left(0)", host.left(0), 1);
        Plugins.call("third", host, 0, 0, 0, PluginHost.QUOTA, 0);
        Check.due("left(0)", host.left(0), 1);
    }

    /** The same bytes but for a jump: only in the first plugin a block begins in the midst. */
    private static void everyPluginHasItsOwnBlocks() {
        PluginHost host = Plugins.hostWith(10, Plugins.single(0, 0, PUSH, 1, POP, PUSH, 2, RETURN, JUMP, 250));
        Plugins.put(host, Plugins.single(0, 0, PUSH, 1, POP, PUSH, 2, RETURN, PUSH, 250));
        Check.due("submit()", host.submit(), PluginHost.ACCEPTED);
        Check.due("unload(0) with a sandbox", host.unload(0), false);
        Check.due("open(1, 3)", host.open(1, 3), 1);
        Check.due("open(0, 3)", host.open(0, 3), 2);
        Check.due("call(1, 0, 0, 0)", host.call(1, 0, 0, 0), PluginHost.QUOTA);
        Check.due("left(1)", host.left(1), 3);
        Check.due("call(2, 0, 0, 0)", host.call(2, 0, 0, 0), PluginHost.QUOTA);
        Check.due("left(2)", host.left(2), 2);
    }
}

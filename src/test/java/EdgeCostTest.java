/** The edges of blocks, their cost and the quota. */
public final class EdgeCostTest {
    private static final int PUSH = Plugins.PUSH, LOAD = Plugins.LOAD, STORE = Plugins.STORE, ADD = Plugins.ADD, DUP = Plugins.DUP;
    private static final int POP = Plugins.POP, JUMP = Plugins.JUMP, JZERO = Plugins.JZERO, CALL = Plugins.CALL, HOST = Plugins.HOST;
    private static final int GGET = Plugins.GGET, GSET = Plugins.GSET, RETURN = Plugins.RETURN;
    private static final int[][] IMPORT = {{0, 0, 1}};
    /** Counts its parameter down to 0 in a loop that begins at its first instruction. */
    private static final int[] COUNT = {LOAD, 0, PUSH, 255, ADD, STORE, 0, LOAD, 0, JZERO, 2, JUMP, 243, PUSH, 1, RETURN};

    public static void main(String[] args) {
        firstInstruction();
        jumpTargets();
        afterJumps();
        afterCalls();
        afterHosts();
        afterReturns();
        blockEnds();
        numberOfInstructions();
        fourMoreForHost();
        everyEntry();
        afterTheAnswerOfACall();
        afterTheAnswerOfAHost();
        lessThanTheCost();
        wholeQuota();
        quotaOfTheSandbox();
        blocksOfThePlugin();
        Check.end();
    }

    private static void costs(String name, int a, int[] code, int... blocks) {
        int[] called = Plugins.function(0, 0, PUSH, 1, DUP, POP, RETURN);
        CostTest.costs(name, Plugins.plugin(IMPORT, Plugins.function(1, 0, code), called), a, blocks);
    }

    private static int[] code(int... code) {
        return code;
    }

    private static void firstInstruction() {
        Check.sentence("a block begins at the first instruction");
        costs("two instructions", 0, code(PUSH, 1, RETURN), 2);
        costs("the first instruction is a JUMP", 0, code(JUMP, 0, PUSH, 1, RETURN), 1, 2);
        costs("the first instruction is gone to as well", 0, code(PUSH, 1, RETURN, JUMP, 251), 2);
    }

    private static void jumpTargets() {
        Check.sentence("at every instruction that a JUMP or JZERO of the function goes to");
        costs("a JUMP ahead", 0, code(PUSH, 1, JUMP, 1, DUP, RETURN), 2, 1);
        costs("a JZERO ahead that is taken", 0, code(PUSH, 1, LOAD, 0, JZERO, 2, DUP, POP, RETURN), 3, 1);
        costs("a JZERO ahead that isn't taken", 1, code(PUSH, 1, LOAD, 0, JZERO, 2, DUP, POP, RETURN), 3, 2, 1);
        costs("a JUMP back into the midst", 2,
            code(PUSH, 1, POP, LOAD, 0, PUSH, 255, ADD, STORE, 0, LOAD, 0, JZERO, 2, JUMP, 243, PUSH, 1, RETURN), 2, 6, 1, 6, 2);
        // The jump after the RETURN is never run, but it is one of the function.
        int[] targets = {0, 2, 3, 5, 6};
        int[][] blocks = {{4}, {1, 3}, {2, 2}, {3, 1}, {4}};
        for (int i = 0; i < targets.length; i++) {
            int b = targets[i] - 8 & 255;
            costs("an unreached JUMP to " + targets[i], 0, code(PUSH, 1, POP, PUSH, 2, RETURN, JUMP, b), blocks[i]);
            costs("an unreached JZERO to " + targets[i], 0, code(PUSH, 1, POP, PUSH, 2, RETURN, JZERO, b), blocks[i]);
        }
        int[] jumps = Plugins.function(0, 0, PUSH, 1, POP, PUSH, 2, RETURN, JUMP, 250);
        int[] same = Plugins.function(0, 0, PUSH, 1, POP, PUSH, 2, RETURN, PUSH, 250);
        CostTest.costs("a JUMP of another function", Plugins.plugin(Plugins.NO_IMPORTS, same, jumps), 0, 4);
        CostTest.costs("a JUMP of the function", Plugins.plugin(Plugins.NO_IMPORTS, jumps, same), 0, 1, 3);
    }

    private static void afterJumps() {
        Check.sentence("and after every JUMP, JZERO");
        costs("JUMP, then what no way reaches", 0, code(PUSH, 1, JUMP, 2, DUP, DUP, RETURN), 2, 1);
        costs("JUMP to the next", 0, code(PUSH, 1, JUMP, 0, RETURN), 2, 1);
        costs("JZERO that isn't taken", 1, code(LOAD, 0, JZERO, 3, PUSH, 5, RETURN, JUMP, 247), 2, 2);
        costs("two JZEROs that aren't taken", 1, code(LOAD, 0, JZERO, 7, LOAD, 0, JZERO, 3, PUSH, 5, RETURN, JUMP, 243), 2, 2, 2);
    }

    private static void afterCalls() {
        Check.sentence("CALL");
        costs("a CALL at the beginning", 0, code(CALL, 1, RETURN), 1, 4, 1);
        costs("two CALLs in a row", 0, code(PUSH, 1, CALL, 1, CALL, 1, ADD, ADD, RETURN), 2, 4, 1, 4, 3);
    }

    private static void afterHosts() {
        Check.sentence("HOST");
        costs("a HOST before the RETURN", 0, code(LOAD, 0, HOST, 0, RETURN), 6, 1);
        costs("two HOSTs in a row", 0, code(LOAD, 0, HOST, 0, HOST, 0, DUP, POP, RETURN), 6, 5, 3);
    }

    private static void afterReturns() {
        Check.sentence("and RETURN");
        costs("what no way reaches after a RETURN", 0, code(PUSH, 1, RETURN, DUP, DUP, RETURN), 2);
        costs("what a JUMP reaches after a RETURN", 0, code(JUMP, 3, PUSH, 1, RETURN, PUSH, 1, POP, PUSH, 1, RETURN), 1, 4);
    }

    private static void blockEnds() {
        Check.sentence("it ends before the next block");
        int[] small = Plugins.function(0, 0, PUSH, 1, RETURN);
        int[] large = Plugins.function(0, 0, Plugins.codeOf(20));
        CostTest.costs("a block before another function", Plugins.plugin(Plugins.NO_IMPORTS, small, large), 0, 2);
        CostTest.costs("a block before the end", Plugins.plugin(Plugins.NO_IMPORTS, large), 0, 19);
        int[] calls = Plugins.function(0, 0, CALL, 1, RETURN);
        CostTest.costs("a block behind another function", Plugins.plugin(Plugins.NO_IMPORTS, calls, small), 0, 1, 2, 1);
    }

    private static void numberOfInstructions() {
        Check.sentence("Its cost is the number of its instructions");
        for (int length = 3; length <= 40; length++) {
            CostTest.costs("code of " + length, Plugins.single(0, 0, Plugins.codeOf(length)), 0, length - 1);
        }
        costs("instructions with and without b", 0, code(PUSH, 1, LOAD, 0, STORE, 0, DUP, POP, GGET, 0, GSET, 0, RETURN), 8);
    }

    private static void fourMoreForHost() {
        Check.sentence("and 4 more if it contains a HOST");
        costs("a HOST alone in its block", 0, code(PUSH, 1, JUMP, 0, HOST, 0, RETURN), 2, 5, 1);
        costs("a HOST after five others", 0, code(PUSH, 1, DUP, POP, DUP, POP, HOST, 0, RETURN), 10, 1);
        costs("a block before the HOST's", 1, code(PUSH, 1, DUP, LOAD, 0, JZERO, 2, DUP, POP, HOST, 0, RETURN), 4, 2, 5, 1);
        costs("a HOST that isn't reached in a block of its own", 0, code(PUSH, 1, DUP, LOAD, 0, JZERO, 2, HOST, 0, RETURN), 4, 1);
    }

    private static void everyEntry() {
        Check.sentence("Whenever a block is entered (from its beginning), its cost is taken off the sandbox's quota");
        costs("a loop, once", 1, COUNT, 6, 2);
        costs("a loop, twice", 2, COUNT, 6, 1, 6, 2);
        costs("a loop, five times", 5, COUNT, 6, 1, 6, 1, 6, 1, 6, 1, 6, 2);
    }

    private static void afterTheAnswerOfACall() {
        Check.sentence("after a CALL the next block is entered when the answer is there");
        int[] plugin = Plugins.plugin(Plugins.NO_IMPORTS, Plugins.function(0, 0, PUSH, 5, GSET, 0, CALL, 1, GSET, 2, PUSH, 1, RETURN),
            Plugins.function(0, 0, PUSH, 6, GSET, 1, PUSH, 7, RETURN));
        int[][] quotaAndRest = {{2, 2, 0, 0, 0}, {3, 0, 5, 0, 0}, {6, 3, 5, 0, 0}, {7, 0, 5, 6, 0}, {9, 2, 5, 6, 0}, {10, 0, 5, 6, 7}};
        for (int[] row : quotaAndRest) {
            PluginHost host = Plugins.hostWith(row[0], plugin);
            boolean ends = row[0] == 10;
            Plugins.call("quota " + row[0], host, 0, 0, 0, ends ? PluginHost.RETURNED : PluginHost.QUOTA, ends ? 1 : 0);
            Check.due("left(0)", host.left(0), row[1]);
            for (int s = 0; s < 3; s++) {
                Check.due("peek(0, " + s + ")", host.peek(0, s), row[2 + s]);
            }
        }
    }

    private static void afterTheAnswerOfAHost() {
        Check.sentence("after a HOST the next block is entered when the answer is there");
        int[] plugin = Plugins.plugin(IMPORT, Plugins.function(0, 0, PUSH, 1, HOST, 0, RETURN));
        int[][] quotaLeftAndMemory = {{0, 0, 0}, {5, 5, 0}, {6, 0, 513}, {7, 0, 513}, {8, 1, 513}};
        for (int[] row : quotaLeftAndMemory) {
            PluginHost host = Plugins.hostWith(row[0], plugin);
            Plugins.call("quota " + row[0], host, 0, 0, 0, row[0] < 7 ? PluginHost.QUOTA : PluginHost.RETURNED, 0);
            Check.due("left(0)", host.left(0), row[1]);
            Check.due("memory()", host.memory(), row[2]);
        }
    }

    private static void lessThanTheCost() {
        Check.sentence("if the quota is less than the cost, nothing is taken off and the call ends with QUOTA before the block");
        int[] plugin = Plugins.single(0, 0, PUSH, 9, GSET, 0, PUSH, 3, RETURN);
        for (int quota = 0; quota <= 9; quota++) {
            PluginHost host = Plugins.hostWith(quota, plugin);
            int left = quota;
            for (int i = 0; i < 4; i++) {
                boolean enough = left >= 4;
                left -= enough ? 4 : 0;
                Plugins.call("quota " + quota, host, 0, 0, 0, enough ? PluginHost.RETURNED : PluginHost.QUOTA, enough ? 3 : 0);
                Check.due("left(0)", host.left(0), left);
                Check.due("peek(0, 0)", host.peek(0, 0), quota >= 4 ? 9 : 0);
            }
        }
    }

    private static void wholeQuota() {
        Check.sentence("a quota of 2000, in one call");
        endless("a cost of 1", 0, JUMP, 254);
        endless("a cost of 3", 2000 % 3, PUSH, 1, POP, JUMP, 251);
        endless("a cost of 8", 2000 % 8, PUSH, 1, HOST, 0, POP, JUMP, 249);
        endless("a cost of 1 and 3", 2000 % 4, JUMP, 0, PUSH, 1, POP, JUMP, 249);
        PluginHost host = Plugins.hostWith(2000, Plugins.plugin(Plugins.NO_IMPORTS,
            Plugins.function(0, 0, CALL, 1, POP, JUMP, 251), Plugins.function(0, 0, PUSH, 1, RETURN)));
        Plugins.call("a CALL over and over", host, 0, 0, 0, PluginHost.QUOTA, 0);
        Check.due("left(0)", host.left(0), 0);
        // Counting down from n takes 6 each time, 1 between two times and 2 at the end: 7 n + 1.
        host = Plugins.hostWith(2000, Plugins.single(1, 0, COUNT));
        Plugins.call("a loop of 285 times", host, 0, 285, 0, PluginHost.RETURNED, 1);
        Check.due("left(0)", host.left(0), 2000 - 7 * 285 - 1);
        host = Plugins.hostWith(2000, Plugins.single(1, 0, COUNT));
        Plugins.call("a loop of 286 times", host, 0, 286, 0, PluginHost.QUOTA, 0);
        Check.due("left(0)", host.left(0), 2000 - 7 * 285);
    }

    private static void endless(String name, int left, int... code) {
        PluginHost host = Plugins.hostWith(2000, Plugins.plugin(IMPORT, Plugins.function(0, 0, code)));
        Plugins.call(name, host, 0, 0, 0, PluginHost.QUOTA, 0);
        Check.due(name + ": left(0)", host.left(0), left);
        Plugins.call(name + " again", host, 0, 0, 0, PluginHost.QUOTA, 0);
    }

    private static void quotaOfTheSandbox() {
        Check.sentence("its cost is taken off the sandbox's quota");
        PluginHost host = Plugins.hostWith(4, Plugins.single(0, 0, PUSH, 1, RETURN));
        for (int x = 1; x < 4; x++) {
            Check.due("open(0, " + (4 - x) + ")", host.open(0, 4 - x), x);
        }
        for (int x = 0; x < 4; x++) {
            boolean enough = x <= 2;
            Check.due("call(" + x + ", 0, 0, 0)", host.call(x, 0, 0, 0), enough ? PluginHost.RETURNED : PluginHost.QUOTA);
            for (int other = 0; other < 4; other++) {
                Check.due("left(" + other + ")", host.left(other), 4 - other - (other <= x && other <= 2 ? 2 : 0));
            }
        }
    }

    /** Three plugins whose blocks lie differently, the third one with the number and the place of an earlier one. */
    private static void blocksOfThePlugin() {
        Check.sentence("The instructions of a function fall into blocks");
        int[] cut = Plugins.single(0, 0, PUSH, 1, POP, PUSH, 2, RETURN, JUMP, 250);
        int[] whole = Plugins.single(0, 0, PUSH, 1, POP, PUSH, 2, RETURN, PUSH, 250);
        PluginHost host = Plugins.hostWith(3, cut);
        Plugins.call("blocks of 1 and 3", host, 0, 0, 0, PluginHost.QUOTA, 0);
        Check.due("left(0)", host.left(0), 2);
        Plugins.put(host, whole);
        Check.due("submit()", host.submit(), PluginHost.ACCEPTED);
        Check.due("open(1, 3)", host.open(1, 3), 1);
        Check.due("call(1, 0, 0, 0)", host.call(1, 0, 0, 0), PluginHost.QUOTA);
        Check.due("left(1)", host.left(1), 3);
        Check.due("close(0)", host.close(0), true);
        Check.due("unload(0)", host.unload(0), true);
        Plugins.put(host, whole);
        Check.due("submit()", host.submit(), PluginHost.ACCEPTED);
        Check.due("open(0, 4)", host.open(0, 4), 0);
        Plugins.call("a block of 4", host, 0, 0, 0, PluginHost.RETURNED, 2);
        Check.due("left(0)", host.left(0), 0);
    }
}

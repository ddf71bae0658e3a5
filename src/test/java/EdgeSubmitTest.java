import java.util.Arrays;
import java.util.function.Supplier;

/** The edges of the checks' order and of DENIED, and of promises 7 to 9: submit, place, number. */
public final class EdgeSubmitTest {
    private static final int PUSH = Plugins.PUSH, JUMP = Plugins.JUMP, RETURN = Plugins.RETURN;
    private static final int[][] DENIED_IMPORT = {{5, 5, 5}};
    private static final int[] GOOD = Plugins.single(0, 0, PUSH, 1, RETURN);
    private static final int[] GOOD_FUNCTION = Plugins.function(0, 0, PUSH, 1, RETURN);
    private static final int[] BADFLOW_FUNCTION = Plugins.function(0, 0, RETURN);
    private static final int[] BADJUMP_FUNCTION = Plugins.function(0, 0, JUMP, 9);
    private static final int[] BADCODE_FUNCTION = Plugins.function(0, 0, 17);

    /** For each finding a plugin that has it, and all later ones in the order of the checks with it. */
    private static final int[][] FINDINGS = {
        {}, {80}, {79}, with(Plugins.plugin(DENIED_IMPORT, BADFLOW_FUNCTION, BADJUMP_FUNCTION, BADCODE_FUNCTION), 1),
        Plugins.plugin(DENIED_IMPORT, BADFLOW_FUNCTION, BADJUMP_FUNCTION, BADCODE_FUNCTION),
        Plugins.plugin(DENIED_IMPORT, BADFLOW_FUNCTION, BADJUMP_FUNCTION),
        Plugins.plugin(DENIED_IMPORT, GOOD_FUNCTION, BADFLOW_FUNCTION),
        Plugins.plugin(DENIED_IMPORT, GOOD_FUNCTION)};
    private static final int[] FINDING_OF = {PluginHost.CUT, PluginHost.CUT, PluginHost.BADHEAD, PluginHost.TRAILING,
        PluginHost.BADCODE, PluginHost.BADJUMP, PluginHost.BADFLOW, PluginHost.DENIED};
    private static final int[] PLACE_OF = {0, 1, 0, 19, 18, 13, 15, 2};

    public static void main(String[] args) {
        orderOfTheChecks();
        bytesOfNow();
        refusedAsAWhole();
        deniedImports();
        lowestFreeNumber();
        bytesAreEmptied();
        noRoom();
        nothingButPlaceAndNumber();
        places();
        numbers();
        Check.end();
    }

    private static int[] with(int[] plugin, int more) {
        int[] longer = Arrays.copyOf(plugin, plugin.length + 1);
        longer[plugin.length] = more;
        return longer;
    }

    private static void submit(String name, PluginHost host, int finding, int place, int number) {
        Check.due(name + ": submit()", host.submit(), finding);
        Check.due(name + ": place()", host.place(), place);
        Check.due(name + ": number()", host.number(), number);
    }

    private static PluginHost threePlugins() {
        PluginHost host = Twins.busy();
        submit("the third plugin", host, PluginHost.ACCEPTED, -1, 2);
        host.rule(6, 5, 5, 5);
        return host;
    }

    private static PluginHost twoPlugins() {
        PluginHost host = threePlugins();
        Check.due("unload(2)", host.unload(2), true);
        return host;
    }

    private static void orderOfTheChecks() {
        Check.sentence("THE CHECKS, in this order");
        for (int i = 0; i < FINDINGS.length; i++) {
            PluginHost host = twoPlugins();
            Plugins.put(host, FINDINGS[i]);
            submit("finding " + FINDING_OF[i], host, FINDING_OF[i], PLACE_OF[i], -1);
            host = threePlugins();
            Plugins.put(host, FINDINGS[i]);
            submit("finding " + FINDING_OF[i] + " without room", host, FINDING_OF[i], PLACE_OF[i], -1);
        }
    }

    /** Earlier bytes, taken or not, had instructions where these have none. */
    private static void bytesOfNow() {
        Check.sentence("Checks the bytes as a plugin.");
        int[] dups = Plugins.single(0, 0, PUSH, 1, Plugins.DUP, Plugins.DUP, Plugins.DUP, RETURN);
        int[] ontoAnOperand = Plugins.single(0, 0, JUMP, 1, PUSH, 1, RETURN);
        PluginHost host = new PluginHost();
        Plugins.put(host, dups);
        submit("taken bytes", host, PluginHost.ACCEPTED, -1, 0);
        Plugins.put(host, ontoAnOperand);
        submit("after taken bytes", host, PluginHost.BADJUMP, 6, -1);
        host = new PluginHost();
        Plugins.put(host, dups);
        host.put(0);
        submit("refused bytes", host, PluginHost.TRAILING, dups.length, -1);
        host.wipe();
        Plugins.put(host, ontoAnOperand);
        submit("after refused bytes", host, PluginHost.BADJUMP, 6, -1);
        host.wipe();
        Plugins.put(host, dups);
        submit("the first bytes again", host, PluginHost.ACCEPTED, -1, 0);
    }

    private static void refusedAsAWhole() {
        Check.sentence("a plugin that fails one is refused as a whole");
        int[][] bad = {BADCODE_FUNCTION, BADJUMP_FUNCTION, BADFLOW_FUNCTION};
        for (int[] function : bad) {
            PluginHost host = new PluginHost();
            Plugins.put(host, Plugins.plugin(Plugins.NO_IMPORTS, GOOD_FUNCTION, GOOD_FUNCTION, GOOD_FUNCTION, function));
            Check.due("submit() is ACCEPTED", host.submit() == PluginHost.ACCEPTED, false);
            for (int p = 0; p < 3; p++) {
                Check.due("open(" + p + ", 9)", host.open(p, 9), -1);
            }
        }
    }

    /** Each set of denied imports among four. */
    private static void deniedImports() {
        Check.sentence("DENIED if the policy denies an import (place: the byte of its first part); the first such.");
        int[][] imports = {{0, 0, 0}, {7, 7, 7}, {3, 0, 7}, {3, 0, 6}};
        for (int set = 0; set < 16; set++) {
            PluginHost host = new PluginHost();
            host.rule(1, 0, 0, 0);
            int first = -1;
            for (int i = 3; i >= 0; i--) {
                if ((set >> i & 1) == 1) {
                    host.rule(6, imports[i][0], imports[i][1], imports[i][2]);
                    first = 2 + 3 * i;
                }
            }
            Plugins.put(host, Plugins.plugin(imports, GOOD_FUNCTION));
            submit("set " + set, host, set == 0 ? PluginHost.ACCEPTED : PluginHost.DENIED, first, set == 0 ? 0 : -1);
        }
        PluginHost host = new PluginHost();
        Plugins.put(host, Plugins.plugin(imports, GOOD_FUNCTION));
        submit("without any rule", host, PluginHost.DENIED, 2, -1);
        host.wipe();
        Plugins.put(host, GOOD);
        submit("without any rule and import", host, PluginHost.ACCEPTED, -1, 0);
    }

    private static PluginHost withPlugins(int set) {
        PluginHost host = new PluginHost();
        for (int p = 0; p < 3; p++) {
            Plugins.put(host, GOOD);
            submit("plugin " + p, host, PluginHost.ACCEPTED, -1, p);
        }
        for (int p = 0; p < 3; p++) {
            if ((set >> p & 1) == 0) {
                Check.due("unload(" + p + ")", host.unload(p), true);
            }
        }
        return host;
    }

    private static void lowestFreeNumber() {
        Check.sentence("ACCEPTED: it gets the lowest free of the numbers 0..2");
        for (int set = 0; set < 8; set++) {
            PluginHost host = withPlugins(set);
            for (int p = 0; p < 3; p++) {
                if ((set >> p & 1) == 0) {
                    Plugins.put(host, GOOD);
                    submit("plugins " + set, host, PluginHost.ACCEPTED, -1, p);
                }
            }
            Plugins.put(host, GOOD);
            submit("all numbers taken", host, PluginHost.NOROOM, -1, -1);
        }
    }

    private static void bytesAreEmptied() {
        Check.sentence("the bytes are emptied");
        PluginHost host = new PluginHost();
        Plugins.put(host, GOOD);
        submit("accepted", host, PluginHost.ACCEPTED, -1, 0);
        submit("no bytes", host, PluginHost.CUT, 0, -1);
        Check.due("wipe()", host.wipe(), 0);
        Plugins.put(host, GOOD);
        submit("the next bytes", host, PluginHost.ACCEPTED, -1, 1);
        for (int i = 0; i < 120; i++) {
            Check.due("put(0)", host.put(0), true);
        }
        Check.due("put(0)", host.put(0), false);
    }

    private static void noRoom() {
        Check.sentence("NOROOM if all checks pass but three plugins are there.");
        PluginHost host = withPlugins(7);
        Plugins.put(host, GOOD);
        for (int i = 0; i < 3; i++) {
            submit("three plugins", host, PluginHost.NOROOM, -1, -1);
        }
        Check.due("unload(2)", host.unload(2), true);
        submit("two plugins, the same bytes", host, PluginHost.ACCEPTED, -1, 2);
        Check.due("wipe()", host.wipe(), 0);
        host = withPlugins(7);
        Plugins.put(host, GOOD);
        host.put(0);
        submit("a check fails", host, PluginHost.TRAILING, GOOD.length, -1);
    }

    private static void nothingButPlaceAndNumber() {
        Check.sentence("Whatever is not ACCEPTED changes nothing but place() and number().");
        for (int i = 0; i < FINDINGS.length; i++) {
            int finding = FINDING_OF[i];
            int[] bytes = FINDINGS[i];
            unchanged(finding, () -> put(twoPlugins(), bytes));
            unchanged(finding, () -> put(threePlugins(), bytes));
        }
        unchanged(PluginHost.NOROOM, () -> put(threePlugins(), GOOD));
    }

    private static PluginHost put(PluginHost host, int[] bytes) {
        Plugins.put(host, bytes);
        return host;
    }

    private static void unchanged(int finding, Supplier<PluginHost> past) {
        Twins.unchangedButPlaceAndNumber("a submit() with finding " + finding, past,
            host -> Check.due("submit()", host.submit(), finding));
    }

    private static void places() {
        Check.sentence("The place of the latest submit(); -1 if that answered ACCEPTED or NOROOM, or there was none.");
        PluginHost host = new PluginHost();
        Check.due("place() before any submit()", host.place(), -1);
        Plugins.put(host, Plugins.bytes(80, 9));
        Check.due("place() before any submit()", host.place(), -1);
        submit("BADHEAD", host, PluginHost.BADHEAD, 1, -1);
        host.wipe();
        Check.due("place() after wipe()", host.place(), 1);
        Plugins.put(host, GOOD);
        Check.due("place() after put()", host.place(), 1);
        submit("ACCEPTED", host, PluginHost.ACCEPTED, -1, 0);
        submit("CUT", host, PluginHost.CUT, 0, -1);
        for (int p = 1; p < 3; p++) {
            Plugins.put(host, GOOD);
            submit("ACCEPTED", host, PluginHost.ACCEPTED, -1, p);
        }
        Plugins.put(host, Plugins.bytes(80, 0, 1, 0, 0, 0));
        submit("BADHEAD", host, PluginHost.BADHEAD, 5, -1);
        host.wipe();
        Plugins.put(host, GOOD);
        submit("NOROOM", host, PluginHost.NOROOM, -1, -1);
    }

    private static void numbers() {
        Check.sentence("The number that the latest submit() gave; -1 if it gave none or there was none.");
        PluginHost host = new PluginHost();
        Check.due("number() before any submit()", host.number(), -1);
        for (int p = 0; p < 3; p++) {
            Plugins.put(host, GOOD);
            submit("ACCEPTED", host, PluginHost.ACCEPTED, -1, p);
            Check.due("number() again", host.number(), p);
            submit("CUT", host, PluginHost.CUT, 0, -1);
        }
        Plugins.put(host, GOOD);
        submit("NOROOM", host, PluginHost.NOROOM, -1, -1);
        Check.due("unload(1)", host.unload(1), true);
        Check.due("number() after unload(1)", host.number(), -1);
        submit("ACCEPTED", host, PluginHost.ACCEPTED, -1, 1);
        Check.due("unload(0)", host.unload(0), true);
        Check.due("number() after unload(0)", host.number(), 1);
    }
}

/** The edges of promises 10 to 12, 15 and 16: open, close, unload, left, peek. */
public final class EdgeSandboxTest {
    private static final int MIN = Integer.MIN_VALUE, MAX = Integer.MAX_VALUE;
    private static final int[] NO_PLUGINS = {MIN, -1, 2, 3, 4, 256, MAX};
    /** Twins.busy() has the sandboxes 0 and 2. */
    private static final int[] NO_SANDBOXES = {MIN, -1, 1, 3, 4, 5, 256, MAX};
    /** Function s puts its parameter into the static s and answers it. */
    private static final int[] KEEPER = Plugins.plugin(Plugins.NO_IMPORTS, keeper(0), keeper(1), keeper(2), keeper(3));

    public static void main(String[] args) {
        quotasAtTheirEdges();
        lowestFreeNumber();
        staticsZero();
        noPluginsNumber();
        quotasOutside();
        fourSandboxes();
        closing();
        closingNone();
        unloading();
        unloadingNone();
        unloadingWithASandbox();
        leftOfNone();
        peekOfNone();
        staticsOutside();
        Check.end();
    }

    private static int[] keeper(int s) {
        return Plugins.function(1, 0, Plugins.LOAD, 0, Plugins.GSET, s, Plugins.GGET, s, Plugins.RETURN);
    }

    private static PluginHost keepers() {
        PluginHost host = new PluginHost();
        Plugins.put(host, KEEPER);
        Check.due("submit()", host.submit(), PluginHost.ACCEPTED);
        return host;
    }

    private static void open(PluginHost host, int p, int quota, int want) {
        Check.due("open(" + p + ", " + quota + ")", host.open(p, quota), want);
    }

    private static void close(PluginHost host, int x, boolean want) {
        Check.due("close(" + x + ")", host.close(x), want);
    }

    private static void unload(PluginHost host, int p, boolean want) {
        Check.due("unload(" + p + ")", host.unload(p), want);
    }

    private static void quotasAtTheirEdges() {
        Check.sentence("A new sandbox for plugin p with a quota");
        int[] quotas = {0, 1, 1999, 2000};
        PluginHost host = keepers();
        for (int x = 0; x < 4; x++) {
            open(host, 0, quotas[x], x);
        }
        for (int x = 0; x < 4; x++) {
            Check.due("left(" + x + ")", host.left(x), quotas[x]);
        }
    }

    private static void lowestFreeNumber() {
        Check.sentence("the lowest free of the numbers 0..3");
        for (int set = 0; set < 16; set++) {
            PluginHost host = keepers();
            for (int x = 0; x < 4; x++) {
                open(host, 0, 100 + x, x);
            }
            for (int x = 0; x < 4; x++) {
                if ((set >> x & 1) == 0) {
                    close(host, x, true);
                }
            }
            for (int x = 0; x < 4; x++) {
                if ((set >> x & 1) == 0) {
                    open(host, 0, 200 + x, x);
                }
            }
            open(host, 0, 300, -1);
            for (int x = 0; x < 4; x++) {
                Check.due("left(" + x + ")", host.left(x), ((set >> x & 1) == 0 ? 200 : 100) + x);
            }
        }
    }

    private static void staticsZero() {
        Check.sentence("statics 0");
        PluginHost host = keepers();
        for (int round = 0; round < 2; round++) {
            for (int x = 0; x < 4; x++) {
                open(host, 0, 100, x);
            }
            for (int x = 0; x < 4; x++) {
                for (int s = 0; s < 4; s++) {
                    Check.due("peek(" + x + ", " + s + ")", host.peek(x, s), 0);
                    Check.due("call(" + x + ", " + s + ", -1, 0)", host.call(x, s, -1, 0), PluginHost.RETURNED);
                    Check.due("peek(" + x + ", " + s + ")", host.peek(x, s), -1);
                }
            }
            for (int x = 0; x < 4; x++) {
                close(host, x, true);
            }
        }
    }

    private static void noPluginsNumber() {
        Check.sentence("-1, changing nothing, if p is no plugin's number");
        for (int p : NO_PLUGINS) {
            Twins.unchanged("open(" + p + ", 9)", Twins::busy, host -> open(host, p, 9, -1));
        }
        PluginHost host = keepers();
        unload(host, 0, true);
        open(host, 0, 9, -1);
    }

    private static void quotasOutside() {
        Check.sentence("quota is outside 0..2000");
        for (int quota : new int[] {MIN, -2000, -1, 2001, 4000, 65536, MAX}) {
            for (int p = 0; p <= 1; p++) {
                int plugin = p;
                Twins.unchanged("open(" + p + ", " + quota + ")", Twins::busy, host -> open(host, plugin, quota, -1));
            }
        }
    }

    private static PluginHost busyWithFour() {
        PluginHost host = Twins.busy();
        open(host, 1, 7, 1);
        open(host, 0, 8, 3);
        return host;
    }

    private static void fourSandboxes() {
        Check.sentence("or four sandboxes are there");
        for (int p = 0; p <= 1; p++) {
            int plugin = p;
            Twins.unchanged("a fifth open(" + p + ", 9)", EdgeSandboxTest::busyWithFour, host -> open(host, plugin, 9, -1));
        }
        for (int x = 0; x < 4; x++) {
            PluginHost host = busyWithFour();
            close(host, x, true);
            open(host, 0, 9, x);
            open(host, 0, 9, -1);
        }
    }

    private static void closing() {
        Check.sentence("Gives a sandbox up.");
        for (int x = 0; x < 4; x++) {
            PluginHost host = busyWithFour();
            close(host, x, true);
            Check.due("left(" + x + ")", host.left(x), -1);
            for (int s = 0; s < 4; s++) {
                Check.due("peek(" + x + ", " + s + ")", host.peek(x, s), 0);
            }
            Check.due("call(" + x + ", 0, 1, 1)", host.call(x, 0, 1, 1), PluginHost.REFUSED);
            for (int other = 0; other < 4; other++) {
                Check.due("left(" + other + ") is -1", host.left(other) == -1, other == x);
            }
        }
    }

    private static void closingNone() {
        Check.sentence("False if x is none's number.");
        for (int x : NO_SANDBOXES) {
            Twins.unchanged("close(" + x + ")", Twins::busy, host -> close(host, x, false));
        }
        for (int x = 0; x < 4; x++) {
            PluginHost host = busyWithFour();
            close(host, x, true);
            close(host, x, false);
        }
    }

    private static void unloading() {
        Check.sentence("Gives a plugin up.");
        for (int p = 0; p < 3; p++) {
            PluginHost host = new PluginHost();
            for (int i = 0; i < 3; i++) {
                Plugins.put(host, Plugins.single(0, 0, Plugins.PUSH, i, Plugins.RETURN));
                Check.due("submit()", host.submit(), PluginHost.ACCEPTED);
            }
            unload(host, p, true);
            int x = 0;
            for (int i = 0; i < 3; i++) {
                open(host, i, 9, i == p ? -1 : x);
                if (i != p) {
                    Check.due("call(" + x + ", 0, 0, 0)", host.call(x, 0, 0, 0), PluginHost.RETURNED);
                    Check.due("result()", host.result(), i);
                    x++;
                }
            }
        }
    }

    private static void unloadingNone() {
        Check.sentence("False, changing nothing, if p is none's number");
        for (int p : NO_PLUGINS) {
            Twins.unchanged("unload(" + p + ")", Twins::busy, host -> unload(host, p, false));
        }
        PluginHost host = keepers();
        unload(host, 0, true);
        unload(host, 0, false);
    }

    private static void unloadingWithASandbox() {
        Check.sentence("or a sandbox is open for it");
        Twins.unchanged("unload(0)", Twins::busy, host -> unload(host, 0, false));
        Twins.unchanged("unload(1)", EdgeSandboxTest::busyWithFour, host -> unload(host, 1, false));
        PluginHost host = busyWithFour();
        close(host, 0, true);
        unload(host, 0, false);
        close(host, 3, true);
        unload(host, 0, false);
        close(host, 2, true);
        unload(host, 0, true);
        unload(host, 1, false);
        close(host, 1, true);
        unload(host, 1, true);
        host = keepers();
        open(host, 0, 0, 0);
        unload(host, 0, false);
    }

    private static void leftOfNone() {
        Check.sentence("The quota that a sandbox has left; -1 if x is none.");
        PluginHost host = Twins.busy();
        for (int x : NO_SANDBOXES) {
            Check.due("left(" + x + ")", host.left(x), -1);
        }
        Check.due("left(0)", host.left(0), 100 - 9);
        Check.due("left(2)", host.left(2), 30 - 9 - 4);
        open(host, 0, 0, 1);
        Check.due("left(1) with nothing left", host.left(1), 0);
    }

    private static void peekOfNone() {
        Check.sentence("Static s of sandbox x; 0 if x is none");
        PluginHost host = Twins.busy();
        Check.due("peek(0, 1)", host.peek(0, 1), 5);
        Check.due("peek(2, 1)", host.peek(2, 1), -3);
        for (int x : NO_SANDBOXES) {
            for (int s = -1; s <= 4; s++) {
                Check.due("peek(" + x + ", " + s + ")", host.peek(x, s), 0);
            }
        }
    }

    /** All statics of all sandboxes are set, so that a static that is another one's shows. */
    private static void staticsOutside() {
        Check.sentence("or s is outside 0..3");
        PluginHost host = keepers();
        for (int x = 0; x < 4; x++) {
            open(host, 0, 100, x);
            for (int s = 0; s < 4; s++) {
                Check.due("call(" + x + ", " + s + ")", host.call(x, s, x * 4 + s + 1, 0), PluginHost.RETURNED);
            }
        }
        for (int x = 0; x < 4; x++) {
            for (int s : new int[] {MIN, -5, -4, -1, 4, 5, 8, 256, MAX}) {
                Check.due("peek(" + x + ", " + s + ")", host.peek(x, s), 0);
            }
            for (int s = 0; s < 4; s++) {
                Check.due("peek(" + x + ", " + s + ")", host.peek(x, s), x * 4 + s + 1);
            }
        }
        for (int x : new int[] {MIN, -1, 4, 5, MAX}) {
            for (int s : new int[] {-4, -1, 0, 3, 4}) {
                Check.due("peek(" + x + ", " + s + ")", host.peek(x, s), 0);
            }
        }
    }
}

/** Promises 10 to 12, 15 and 16: open, close, unload, left, peek. */
public final class SandboxTest {
    private static final int MIN = Integer.MIN_VALUE, MAX = Integer.MAX_VALUE;
    /** Function s puts its parameter into the static s and answers what was there. */
    private static final int[] KEEPER = Plugins.plugin(Plugins.NO_IMPORTS, keeper(0), keeper(1), keeper(2), keeper(3));

    private static int[] keeper(int s) {
        return Plugins.function(1, 0, Plugins.GGET, s, Plugins.LOAD, 0, Plugins.GSET, s, Plugins.RETURN);
    }

    public static void main(String[] args) {
        wrongOpens();
        numbersAndRoom();
        quotas();
        staticsAreTheSandboxesOwn();
        aNewSandboxStartsAfresh();
        closing();
        unloading();
        Check.end();
    }

    private static PluginHost withPlugin() {
        PluginHost host = new PluginHost();
        Plugins.put(host, KEEPER);
        Check.due("submit()", host.submit(), PluginHost.ACCEPTED);
        return host;
    }

    private static void open(PluginHost host, int p, int quota, int want) {
        Check.due("open(" + p + ", " + quota + ")", host.open(p, quota), want);
    }

    private static void wrongOpens() {
        PluginHost host = withPlugin();
        for (int p : new int[] {-1, 1, 2, 3, 4, MIN, MAX}) {
            open(host, p, 5, -1);
        }
        for (int quota : new int[] {-1, 2001, MIN, MAX}) {
            open(host, 0, quota, -1);
        }
        for (int x = -1; x <= 4; x++) {
            Check.due("left(" + x + ")", host.left(x), -1);
        }
        open(host, 0, 5, 0);
    }

    private static void numbersAndRoom() {
        PluginHost host = withPlugin();
        for (int x = 0; x < 4; x++) {
            open(host, 0, x, x);
        }
        open(host, 0, 9, -1);
        Check.due("close(2)", host.close(2), true);
        Check.due("close(1)", host.close(1), true);
        open(host, 0, 11, 1);
        open(host, 0, 12, 2);
        open(host, 0, 13, -1);
        int[] quotas = {0, 11, 12, 3};
        for (int x = 0; x < 4; x++) {
            Check.due("left(" + x + ")", host.left(x), quotas[x]);
        }
        for (int x : new int[] {-1, 4, MIN, MAX}) {
            Check.due("left(" + x + ")", host.left(x), -1);
        }
    }

    private static void quotas() {
        PluginHost host = withPlugin();
        open(host, 0, 0, 0);
        open(host, 0, 2000, 1);
        Check.due("left(0)", host.left(0), 0);
        Check.due("left(1)", host.left(1), 2000);
        Check.due("call(1, 0, 7, 0)", host.call(1, 0, 7, 0), PluginHost.RETURNED);
        Check.due("left(0)", host.left(0), 0);
        Check.due("left(1)", host.left(1), 1996);
        Check.due("call(0, 0, 7, 0)", host.call(0, 0, 7, 0), PluginHost.QUOTA);
        Check.due("peek(0, 0)", host.peek(0, 0), 0);
    }

    private static void staticsAreTheSandboxesOwn() {
        PluginHost host = withPlugin();
        for (int x = 0; x < 4; x++) {
            open(host, 0, 100, x);
        }
        for (int x = 0; x < 4; x++) {
            for (int s = 0; s < 4; s++) {
                Check.due("peek(" + x + ", " + s + ")", host.peek(x, s), 0);
                Check.due("call(" + x + ", " + s + ")", host.call(x, s, 10 * x + s + 1, 0), PluginHost.RETURNED);
                Check.due("result()", host.result(), 0);
            }
        }
        for (int x = 0; x < 4; x++) {
            for (int s = 0; s < 4; s++) {
                Check.due("peek(" + x + ", " + s + ")", host.peek(x, s), 10 * x + s + 1);
            }
            for (int s : new int[] {-1, 4, 5, MIN, MAX}) {
                Check.due("peek(" + x + ", " + s + ")", host.peek(x, s), 0);
            }
        }
        for (int x : new int[] {-1, 4, MIN, MAX}) {
            Check.due("peek(" + x + ", 0)", host.peek(x, 0), 0);
        }
    }

    private static void aNewSandboxStartsAfresh() {
        PluginHost host = withPlugin();
        open(host, 0, 100, 0);
        for (int s = 0; s < 4; s++) {
            host.call(0, s, 5 + s, 0);
        }
        Check.due("close(0)", host.close(0), true);
        Check.due("peek(0, 1) of a closed sandbox", host.peek(0, 1), 0);
        Check.due("left(0) of a closed sandbox", host.left(0), -1);
        open(host, 0, 50, 0);
        Check.due("left(0)", host.left(0), 50);
        for (int s = 0; s < 4; s++) {
            Check.due("peek(0, " + s + ")", host.peek(0, s), 0);
        }
    }

    private static void closing() {
        PluginHost host = withPlugin();
        open(host, 0, 100, 0);
        open(host, 0, 100, 1);
        for (int x : new int[] {-1, 2, 3, 4, MIN, MAX}) {
            Check.due("close(" + x + ")", host.close(x), false);
        }
        Check.due("close(0)", host.close(0), true);
        Check.due("close(0) again", host.close(0), false);
        Check.due("call(0, 0, 0, 0)", host.call(0, 0, 0, 0), PluginHost.REFUSED);
        Check.due("call(1, 0, 0, 0)", host.call(1, 0, 0, 0), PluginHost.RETURNED);
    }

    private static void unloading() {
        PluginHost host = withPlugin();
        Plugins.put(host, KEEPER);
        Check.due("submit()", host.submit(), PluginHost.ACCEPTED);
        open(host, 0, 100, 0);
        open(host, 1, 100, 1);
        open(host, 0, 100, 2);
        for (int p : new int[] {-1, 2, 3, 4, MIN, MAX}) {
            Check.due("unload(" + p + ")", host.unload(p), false);
        }
        Check.due("unload(0) with two sandboxes", host.unload(0), false);
        Check.due("close(0)", host.close(0), true);
        Check.due("unload(0) with one sandbox", host.unload(0), false);
        Check.due("call(2, 0, 1, 0)", host.call(2, 0, 1, 0), PluginHost.RETURNED);
        Check.due("close(2)", host.close(2), true);
        Check.due("unload(0)", host.unload(0), true);
        Check.due("unload(0) again", host.unload(0), false);
        open(host, 0, 100, -1);
        open(host, 1, 100, 0);
        Check.due("call(0, 0, 1, 0)", host.call(0, 0, 1, 0), PluginHost.RETURNED);
        Check.due("call(1, 0, 1, 0)", host.call(1, 0, 1, 0), PluginHost.RETURNED);
        Check.due("unload(1)", host.unload(1), false);
        everySandboxHoldsItsPlugin();
    }

    private static void everySandboxHoldsItsPlugin() {
        PluginHost host = withPlugin();
        for (int x = 0; x < 4; x++) {
            open(host, 0, x, x);
        }
        for (int kept = 0; kept < 4; kept++) {
            for (int x = 0; x < 4; x++) {
                if (x != kept) {
                    Check.due("close(" + x + ")", host.close(x), true);
                }
            }
            Check.due("unload(0) while sandbox " + kept + " is open", host.unload(0), false);
            for (int x = 0; x < 4; x++) {
                if (x != kept) {
                    open(host, 0, x, x);
                }
            }
        }
    }
}

/** Promises 5 and 6: put, wipe. */
public final class BytesTest {
    public static void main(String[] args) {
        PluginHost host = new PluginHost();
        for (int b : new int[] {-1, 256, 257, -128, Integer.MIN_VALUE, Integer.MAX_VALUE}) {
            Check.due("put(" + b + ")", host.put(b), false);
        }
        Check.due("wipe()", host.wipe(), 0);
        Check.due("put(0)", host.put(0), true);
        Check.due("put(255)", host.put(255), true);
        Check.due("put(256)", host.put(256), false);
        Check.due("wipe()", host.wipe(), 2);
        Check.due("wipe()", host.wipe(), 0);
        roomFor120();
        wipedBytesAreGone();
        Check.end();
    }

    private static void roomFor120() {
        PluginHost host = new PluginHost();
        for (int i = 0; i < 120; i++) {
            Check.due("put(" + i + ")", host.put(i), true);
        }
        Check.due("put(1) as the 121st", host.put(1), false);
        Check.due("wipe()", host.wipe(), 120);
        Check.due("put(1)", host.put(1), true);
        Check.due("wipe()", host.wipe(), 1);
    }

    private static void wipedBytesAreGone() {
        PluginHost host = new PluginHost();
        Plugins.put(host, Plugins.single(0, 0, Plugins.PUSH, 1, Plugins.RETURN));
        Check.due("wipe()", host.wipe(), 9);
        Check.due("submit()", host.submit(), PluginHost.CUT);
        Check.due("place()", host.place(), 0);
        Check.due("put(80)", host.put(80), true);
        Check.due("submit()", host.submit(), PluginHost.CUT);
        Check.due("place()", host.place(), 1);
    }
}

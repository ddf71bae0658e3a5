/** The edges of promises 5 and 6: put, wipe. */
public final class EdgeBytesTest {
    private static final int[] OUTSIDE = {-1, 256, 80 + 256, 80 - 256, Integer.MIN_VALUE, Integer.MAX_VALUE};

    public static void main(String[] args) {
        everyByte();
        bytesOutside();
        fullBytes();
        wipes();
        Check.end();
    }

    private static void everyByte() {
        Check.sentence("Appends a byte to the bytes of the next plugin.");
        for (int b = 0; b <= 255; b++) {
            PluginHost host = new PluginHost();
            Plugins.put(host, Plugins.single(0, 0, Plugins.PUSH, b, Plugins.RETURN));
            Check.due("submit()", host.submit(), PluginHost.ACCEPTED);
        }
        PluginHost host = new PluginHost();
        Plugins.put(host, Plugins.bytes(80, 0));
        Check.due("submit() of the first bytes", host.submit(), PluginHost.CUT);
        Plugins.put(host, Plugins.bytes(1, 0, 0, 3, 0, 1, 16));
        Check.due("submit() with the further bytes", host.submit(), PluginHost.ACCEPTED);
    }

    private static void bytesOutside() {
        Check.sentence("False, changing nothing, if b is outside 0..255");
        for (int b : OUTSIDE) {
            Twins.unchanged("put(" + b + ")", Twins::busy, host -> Check.due("put(" + b + ")", host.put(b), false));
            Twins.unchanged("put(" + b + ")", PluginHost::new, host -> Check.due("put(" + b + ")", host.put(b), false));
        }
    }

    private static PluginHost full() {
        PluginHost host = new PluginHost();
        host.rule(1, 0, 0, 0);
        Plugins.put(host, Plugins.longest());
        return host;
    }

    private static void fullBytes() {
        Check.sentence("or 120 bytes are there");
        for (int b : new int[] {0, 16, 80, 255}) {
            Twins.unchanged("a 121st put(" + b + ")", EdgeBytesTest::full, host -> Check.due("put(" + b + ")", host.put(b), false));
        }
        PluginHost host = full();
        Check.due("put(80)", host.put(80), false);
        Check.due("submit() of 120 bytes", host.submit(), PluginHost.ACCEPTED);
        Check.due("put(80) after ACCEPTED", host.put(80), true);
        Check.due("wipe()", host.wipe(), 1);
        host = full();
        Check.due("wipe()", host.wipe(), 120);
        Check.due("put(80) after wipe()", host.put(80), true);
        Check.due("wipe()", host.wipe(), 1);
    }

    private static void wipes() {
        Check.sentence("Empties the bytes; answers their number.");
        for (int count : new int[] {0, 1, 2, 119, 120}) {
            PluginHost host = new PluginHost();
            for (int i = 0; i < count; i++) {
                host.put(80);
            }
            Check.due("wipe() of " + count, host.wipe(), count);
            Check.due("wipe() of none", host.wipe(), 0);
            Check.due("submit() of none", host.submit(), PluginHost.CUT);
            Check.due("place()", host.place(), 0);
        }
        PluginHost host = Twins.busy();
        Check.due("wipe()", host.wipe(), 9);
        Twins.unchanged("wipe() of none", EdgeBytesTest::busyWithoutBytes, h -> Check.due("wipe()", h.wipe(), 0));
    }

    private static PluginHost busyWithoutBytes() {
        PluginHost host = Twins.busy();
        host.wipe();
        return host;
    }
}

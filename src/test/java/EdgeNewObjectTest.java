/** Promise 1: what each call answers on an object on which nothing was called before. */
public final class EdgeNewObjectTest {
    private static final int[] NUMBERS = {Integer.MIN_VALUE, -1, 0, 1, 2, 3, 4, Integer.MAX_VALUE};

    public static void main(String[] args) {
        noRules();
        noBytes();
        noPlugins();
        noSandboxes();
        noMemory();
        objectsAreApart();
        Check.end();
    }

    private static void noRules() {
        Check.sentence("No rules");
        Check.due("unrule()", new PluginHost().unrule(), false);
        for (int path = 0; path < 512; path++) {
            int a = path / 64, b = path / 8 % 8, c = path % 8;
            Check.due("allows(" + a + ", " + b + ", " + c + ")", new PluginHost().allows(a, b, c), false);
        }
        for (int packed = 0; packed <= 7; packed++) {
            Check.due("rule(" + packed + ", 0, 7, 3)", new PluginHost().rule(packed, 0, 7, 3), true);
        }
        Check.due("rule(8, 0, 0, 0)", new PluginHost().rule(8, 0, 0, 0), false);
        PluginHost host = new PluginHost();
        for (int i = 1; i <= 13; i++) {
            Check.due("rule(1, 0, 0, 0), number " + i, host.rule(1, 0, 0, 0), i <= 12);
        }
    }

    private static void noBytes() {
        Check.sentence("no bytes");
        Check.due("wipe()", new PluginHost().wipe(), 0);
        Check.due("put(0)", new PluginHost().put(0), true);
        Check.due("put(256)", new PluginHost().put(256), false);
        PluginHost host = new PluginHost();
        Check.due("submit()", host.submit(), PluginHost.CUT);
        Check.due("place() after submit()", host.place(), 0);
        Check.due("number() after submit()", host.number(), -1);
        host = new PluginHost();
        for (int i = 1; i <= 121; i++) {
            Check.due("put(80), number " + i, host.put(80), i <= 120);
        }
    }

    private static void noPlugins() {
        Check.sentence("no plugins");
        Check.due("place()", new PluginHost().place(), -1);
        Check.due("number()", new PluginHost().number(), -1);
        for (int p : NUMBERS) {
            Check.due("open(" + p + ", 0)", new PluginHost().open(p, 0), -1);
            Check.due("open(" + p + ", 2000)", new PluginHost().open(p, 2000), -1);
            Check.due("unload(" + p + ")", new PluginHost().unload(p), false);
        }
    }

    private static void noSandboxes() {
        Check.sentence("no sandboxes");
        Check.due("result()", new PluginHost().result(), 0);
        for (int x : NUMBERS) {
            Check.due("close(" + x + ")", new PluginHost().close(x), false);
            Check.due("call(" + x + ", 0, 0, 0)", new PluginHost().call(x, 0, 0, 0), PluginHost.REFUSED);
            Check.due("left(" + x + ")", new PluginHost().left(x), -1);
            for (int s : NUMBERS) {
                Check.due("peek(" + x + ", " + s + ")", new PluginHost().peek(x, s), 0);
            }
        }
    }

    private static void noMemory() {
        Check.sentence("host memory 0");
        Check.due("memory()", new PluginHost().memory(), 0);
    }

    private static void objectsAreApart() {
        Check.sentence("A new object, while another one is in use");
        PluginHost used = Twins.busy();
        Twins.unchanged("the use of another object", PluginHost::new, fresh -> Check.due("unload(1)", used.unload(1), true));
    }
}

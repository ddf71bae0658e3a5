/** Promise 1: no rules, no bytes, no plugins, no sandboxes, host memory 0. */
public final class NewObjectTest {
    public static void main(String[] args) {
        PluginHost host = new PluginHost();
        Check.due("place()", host.place(), -1);
        Check.due("number()", host.number(), -1);
        Check.due("result()", host.result(), 0);
        Check.due("memory()", host.memory(), 0);
        Check.due("unrule()", host.unrule(), false);
        Check.due("allows(0, 0, 0)", host.allows(0, 0, 0), false);
        Check.due("allows(7, 7, 7)", host.allows(7, 7, 7), false);
        Check.due("wipe()", host.wipe(), 0);
        for (int i = -1; i <= 4; i++) {
            Check.due("open(" + i + ", 0)", host.open(i, 0), -1);
            Check.due("unload(" + i + ")", host.unload(i), false);
            Check.due("close(" + i + ")", host.close(i), false);
            Check.due("left(" + i + ")", host.left(i), -1);
            Check.due("peek(" + i + ", 0)", host.peek(i, 0), 0);
            Check.due("call(" + i + ", 0, 0, 0)", host.call(i, 0, 0, 0), PluginHost.REFUSED);
        }
        Check.due("submit()", host.submit(), PluginHost.CUT);
        Check.due("place()", host.place(), 0);
        objectsAreApart();
        Check.end();
    }

    private static void objectsAreApart() {
        PluginHost used = new PluginHost();
        used.rule(1, 0, 0, 0);
        used.put(80);
        PluginHost fresh = new PluginHost();
        Check.due("allows(0, 0, 0) of another object", fresh.allows(0, 0, 0), false);
        Check.due("wipe() of another object", fresh.wipe(), 0);
    }
}

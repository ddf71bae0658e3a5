/** Promises 2 to 4: rule, unrule, allows. */
public final class PolicyTest {
    private static final int MIN = Integer.MIN_VALUE, MAX = Integer.MAX_VALUE;

    public static void main(String[] args) {
        longestPrefixDecides();
        newestOfTheSamePrefixDecides();
        otherPartsAreNotLookedAt();
        wrongRulesChangeNothing();
        twelveRulesAtMost();
        unruleTakesTheNewest();
        pathsOutsideAreNotAllowed();
        everyPartCounts();
        Check.end();
    }

    private static void rule(PluginHost host, int packed, int a, int b, int c, boolean want) {
        Check.due("rule(" + packed + ", " + a + ", " + b + ", " + c + ")", host.rule(packed, a, b, c), want);
    }

    private static void allows(PluginHost host, int a, int b, int c, boolean want) {
        Check.due("allows(" + a + ", " + b + ", " + c + ")", host.allows(a, b, c), want);
    }

    private static void longestPrefixDecides() {
        PluginHost host = new PluginHost();
        rule(host, 6, 1, 2, 3, true);
        rule(host, 5, 1, 2, 0, true);
        rule(host, 2, 1, 0, 0, true);
        rule(host, 1, 0, 0, 0, true);
        allows(host, 1, 2, 3, false);
        allows(host, 1, 2, 4, true);
        allows(host, 1, 3, 3, false);
        allows(host, 2, 2, 3, true);
        allows(host, 0, 0, 0, true);
    }

    private static void newestOfTheSamePrefixDecides() {
        for (int parts = 0; parts <= 3; parts++) {
            PluginHost host = new PluginHost();
            rule(host, parts * 2 + 1, 4, 5, 6, true);
            allows(host, 4, 5, 6, true);
            rule(host, parts * 2, 4, 5, 6, true);
            allows(host, 4, 5, 6, false);
            rule(host, parts * 2 + 1, 4, 5, 6, true);
            allows(host, 4, 5, 6, true);
        }
    }

    private static void otherPartsAreNotLookedAt() {
        PluginHost host = new PluginHost();
        rule(host, 1, -1, 8, MAX, true);
        allows(host, 3, 3, 3, true);
        rule(host, 2, 3, -1, MIN, true);
        allows(host, 3, 0, 0, false);
        allows(host, 4, 0, 0, true);
        rule(host, 5, 3, 7, 8, true);
        allows(host, 3, 7, 0, true);
        allows(host, 3, 6, 0, false);
    }

    private static void wrongRulesChangeNothing() {
        PluginHost host = new PluginHost();
        for (int packed : new int[] {-1, -2, -7, 8, 9, 15, MIN, MIN + 1, MAX, MAX - 1}) {
            rule(host, packed, 0, 0, 0, false);
        }
        for (int part : new int[] {-1, 8, 256, MIN, MAX}) {
            rule(host, 3, part, 0, 0, false);
            rule(host, 5, part, 0, 0, false);
            rule(host, 5, 0, part, 0, false);
            rule(host, 7, part, 0, 0, false);
            rule(host, 7, 0, part, 0, false);
            rule(host, 7, 0, 0, part, false);
        }
        allows(host, 0, 0, 0, false);
        Check.due("unrule()", host.unrule(), false);
    }

    private static void twelveRulesAtMost() {
        PluginHost host = new PluginHost();
        for (int i = 0; i < 12; i++) {
            rule(host, 0, 0, 0, 0, true);
        }
        rule(host, 1, 0, 0, 0, false);
        rule(host, 7, 1, 1, 1, false);
        allows(host, 1, 1, 1, false);
        Check.due("unrule()", host.unrule(), true);
        rule(host, 1, 0, 0, 0, true);
        allows(host, 1, 1, 1, true);
        rule(host, 0, 0, 0, 0, false);
        for (int i = 0; i < 12; i++) {
            Check.due("unrule()", host.unrule(), true);
        }
        Check.due("unrule()", host.unrule(), false);
    }

    private static void unruleTakesTheNewest() {
        PluginHost host = new PluginHost();
        rule(host, 7, 1, 1, 1, true);
        rule(host, 1, 0, 0, 0, true);
        rule(host, 6, 1, 1, 1, true);
        allows(host, 1, 1, 1, false);
        Check.due("unrule()", host.unrule(), true);
        allows(host, 1, 1, 1, true);
        allows(host, 2, 2, 2, true);
        Check.due("unrule()", host.unrule(), true);
        allows(host, 1, 1, 1, true);
        allows(host, 2, 2, 2, false);
        Check.due("unrule()", host.unrule(), true);
        allows(host, 1, 1, 1, false);
        Check.due("unrule()", host.unrule(), false);
    }

    private static void pathsOutsideAreNotAllowed() {
        PluginHost host = new PluginHost();
        rule(host, 1, 0, 0, 0, true);
        for (int part : new int[] {-1, 8, 255, MIN, MAX}) {
            allows(host, part, 0, 0, false);
            allows(host, 0, part, 0, false);
            allows(host, 0, 0, part, false);
        }
        allows(host, 0, 0, 0, true);
        allows(host, 7, 7, 7, true);
    }

    private static void everyPartCounts() {
        for (int parts = 1; parts <= 3; parts++) {
            PluginHost host = new PluginHost();
            rule(host, parts * 2 + 1, 7, 0, 5, true);
            allows(host, 7, 0, 5, true);
            allows(host, 6, 0, 5, false);
            allows(host, 7, 1, 5, parts < 2);
            allows(host, 7, 0, 4, parts < 3);
        }
    }
}

/** The edges of the policy and of promises 2 to 4: rule, unrule, allows. */
public final class EdgePolicyTest {
    private static final int MIN = Integer.MIN_VALUE, MAX = Integer.MAX_VALUE;
    private static final int[] OUTSIDE = {-1, 8, 256, MIN, MAX};

    public static void main(String[] args) {
        partsAtTheirEdges();
        prefixesOfEachLength();
        longestPrefix();
        newestRule();
        withoutAnyRule();
        otherParts();
        partsOutside();
        firstPartsOutside();
        twelveRules();
        packedNumbers();
        unruleUntilNone();
        pathsOutside();
        Check.end();
    }

    private static void rule(PluginHost host, int packed, int a, int b, int c, boolean want) {
        Check.due("rule(" + packed + ", " + a + ", " + b + ", " + c + ")", host.rule(packed, a, b, c), want);
    }

    private static void allows(PluginHost host, int a, int b, int c, boolean want) {
        Check.due("allows(" + a + ", " + b + ", " + c + ")", host.allows(a, b, c), want);
    }

    private static void refused(int packed, int a, int b, int c) {
        Twins.unchanged("rule(" + packed + ", " + a + ", " + b + ", " + c + ")", Twins::busy,
            host -> rule(host, packed, a, b, c, false));
    }

    private static void partsAtTheirEdges() {
        Check.sentence("a path of three parts a, b, c, each 0..7");
        for (int a = 0; a <= 7; a += 7) {
            for (int b = 0; b <= 7; b += 7) {
                for (int c = 0; c <= 7; c += 7) {
                    PluginHost host = new PluginHost();
                    rule(host, 7, a, b, c, true);
                    allows(host, a, b, c, true);
                    allows(host, 7 - a, b, c, false);
                    allows(host, a, 7 - b, c, false);
                    allows(host, a, b, 7 - c, false);
                }
            }
        }
    }

    private static void prefixesOfEachLength() {
        Check.sentence("A rule has a prefix of 0 to 3 parts and allows or denies.");
        for (int packed = 0; packed <= 7; packed++) {
            int parts = packed / 2;
            boolean allow = packed % 2 == 1;
            for (int a = 0; a <= 7; a++) {
                PluginHost host = new PluginHost();
                rule(host, allow ? 0 : 1, 0, 0, 0, true);
                rule(host, packed, 5, 0, 7, true);
                for (int rest = 0; rest < 64; rest++) {
                    int b = rest / 8, c = rest % 8;
                    boolean begins = (parts < 1 || a == 5) && (parts < 2 || b == 0) && (parts < 3 || c == 7);
                    allows(host, a, b, c, begins == allow);
                }
            }
        }
    }

    /** Rules of all four lengths, in each order in which they can be made. */
    private static void longestPrefix() {
        Check.sentence("For a path the rule with the longest prefix that the path begins with decides");
        for (int order = 0; order < 256; order++) {
            int[] lengths = {order & 3, order >> 2 & 3, order >> 4 & 3, order >> 6};
            int seen = 0;
            PluginHost host = new PluginHost();
            PluginHost opposite = new PluginHost();
            for (int parts : lengths) {
                seen |= 1 << parts;
                host.rule(parts * 2 + parts % 2, 3, 4, 5);
                opposite.rule(parts * 2 + 1 - parts % 2, 3, 4, 5);
            }
            if (seen == 15) {
                decidesByLength(host, true);
                decidesByLength(opposite, false);
            }
        }
    }

    private static void decidesByLength(PluginHost host, boolean oddLengthsAllow) {
        allows(host, 3, 4, 5, oddLengthsAllow);
        allows(host, 3, 4, 6, !oddLengthsAllow);
        allows(host, 3, 5, 5, oddLengthsAllow);
        allows(host, 4, 4, 5, !oddLengthsAllow);
    }

    private static void newestRule() {
        Check.sentence("of several with the same prefix the newest");
        for (int parts = 0; parts <= 3; parts++) {
            PluginHost host = new PluginHost();
            for (int i = 0; i < 12; i++) {
                rule(host, parts * 2 + i % 2, 3, 4, 5, true);
                allows(host, 3, 4, 5, i % 2 == 1);
            }
        }
        PluginHost host = new PluginHost();
        rule(host, 3, 3, 1, 1, true);
        rule(host, 0, 3, 4, 5, true);
        rule(host, 7, 2, 4, 5, true);
        allows(host, 3, 4, 5, true);
        // The first parts alone are the prefix, so this one has the prefix of the first rule.
        rule(host, 2, 3, 2, 2, true);
        allows(host, 3, 4, 5, false);
        allows(host, 3, 1, 1, false);
    }

    private static void withoutAnyRule() {
        Check.sentence("without any rule the path is denied");
        allows(new PluginHost(), 3, 4, 5, false);
        PluginHost host = new PluginHost();
        rule(host, 3, 4, 4, 5, true);
        rule(host, 5, 3, 5, 5, true);
        rule(host, 7, 3, 4, 4, true);
        allows(host, 3, 4, 5, false);
        host = new PluginHost();
        rule(host, 1, 3, 4, 5, true);
        allows(host, 3, 4, 5, true);
        host.unrule();
        allows(host, 3, 4, 5, false);
    }

    private static void otherParts() {
        Check.sentence("the other parts aren't looked at");
        for (int odd : OUTSIDE) {
            PluginHost host = new PluginHost();
            rule(host, 1, odd, odd, odd, true);
            allows(host, 0, 0, 0, true);
            rule(host, 2, 7, odd, odd, true);
            allows(host, 7, 0, 7, false);
            rule(host, 5, 7, 7, odd, true);
            allows(host, 7, 7, 0, true);
            allows(host, 7, 0, 7, false);
        }
    }

    private static void partsOutside() {
        Check.sentence("False, changing nothing, if parts is outside 0..3");
        for (int packed : new int[] {-1, -2, -3, -8, 8, 9, 10, 16, 256, MIN, MIN + 1, MIN + 7, MAX, MAX - 1}) {
            refused(packed, 0, 0, 0);
        }
    }

    private static void firstPartsOutside() {
        Check.sentence("one of the first parts is outside 0..7");
        for (int odd : OUTSIDE) {
            for (int allow = 0; allow <= 1; allow++) {
                refused(2 + allow, odd, 0, 0);
                refused(4 + allow, odd, 7, 0);
                refused(4 + allow, 7, odd, 0);
                refused(6 + allow, odd, 0, 7);
                refused(6 + allow, 0, odd, 7);
                refused(6 + allow, 0, 7, odd);
            }
        }
        PluginHost host = new PluginHost();
        for (int parts = 1; parts <= 3; parts++) {
            rule(host, parts * 2, 0, 0, 0, true);
            rule(host, parts * 2, 7, 7, 7, true);
        }
    }

    private static PluginHost busyWithTwelveRules() {
        PluginHost host = Twins.busy();
        for (int i = 4; i <= 12; i++) {
            rule(host, i % 8, 7, 1, 0, true);
        }
        return host;
    }

    private static void twelveRules() {
        Check.sentence("or there are 12 rules");
        for (int packed = 0; packed <= 7; packed++) {
            int more = packed;
            Twins.unchanged("a 13th rule(" + more + ", 1, 1, 1)", EdgePolicyTest::busyWithTwelveRules,
                host -> rule(host, more, 1, 1, 1, false));
        }
        PluginHost host = busyWithTwelveRules();
        for (int round = 0; round < 3; round++) {
            Check.due("unrule()", host.unrule(), true);
            rule(host, 7, 1, 1, 1, true);
            allows(host, 1, 1, 1, true);
            rule(host, 6, 1, 1, 1, false);
            allows(host, 1, 1, 1, true);
        }
    }

    private static void packedNumbers() {
        Check.sentence("packed is parts * 2, plus 1 for a rule that allows");
        for (int packed = 0; packed <= 7; packed++) {
            PluginHost host = new PluginHost();
            rule(host, packed % 2 == 0 ? 1 : 0, 0, 0, 0, true);
            rule(host, packed, 1, 2, 3, true);
            boolean allow = packed % 2 == 1;
            allows(host, 1, 2, 3, allow);
            allows(host, 1, 2, 4, allow == packed / 2 < 3);
            allows(host, 1, 3, 3, allow == packed / 2 < 2);
            allows(host, 2, 2, 3, allow == packed / 2 < 1);
        }
    }

    private static void unruleUntilNone() {
        Check.sentence("Removes the newest rule; false if there is none.");
        PluginHost host = new PluginHost();
        for (int round = 0; round < 2; round++) {
            Check.due("unrule() without a rule", host.unrule(), false);
            Check.due("unrule() without a rule again", host.unrule(), false);
            for (int i = 0; i < 12; i++) {
                rule(host, i % 2, 0, 0, 0, true);
            }
            for (int i = 12; i > 0; i--) {
                allows(host, 0, 0, 0, i % 2 == 0);
                Check.due("unrule() of " + i, host.unrule(), true);
            }
            allows(host, 0, 0, 0, false);
        }
        Twins.unchanged("unrule() without a rule", PluginHost::new, fresh -> Check.due("unrule()", fresh.unrule(), false));
    }

    private static void pathsOutside() {
        Check.sentence("Whether the policy allows a path; false if a part is outside 0..7.");
        PluginHost host = new PluginHost();
        rule(host, 1, 0, 0, 0, true);
        rule(host, 3, 7, 0, 0, true);
        for (int odd : OUTSIDE) {
            allows(host, odd, 0, 0, false);
            allows(host, 7, odd, 0, false);
            allows(host, 7, 0, odd, false);
            allows(host, odd, odd, odd, false);
        }
        allows(host, 0, 0, 0, true);
        allows(host, 7, 7, 7, true);
    }
}

/** Promises 7 and 8: the reading of the format, CUT, BADHEAD and TRAILING and their places. */
public final class FormatTest {
    private static final int[] WHOLE = {80, 2, 1, 2, 3, 4, 5, 6, 2, 1, 1, 3, 0, 5, 16, 0, 0, 3, 0, 7, 16};

    public static void main(String[] args) {
        Plugins.submit("whole", WHOLE, PluginHost.ACCEPTED, -1);
        everyCut();
        everyNumberOutOfRange();
        everyNumberAtItsEdge();
        trailing();
        theFirstCounts();
        codeIsOnlySkipped();
        Check.end();
    }

    private static int[] firstBytes(int length) {
        int[] cut = new int[length];
        System.arraycopy(WHOLE, 0, cut, 0, length);
        return cut;
    }

    private static int[] with(int at, int value) {
        int[] changed = WHOLE.clone();
        changed[at] = value;
        return changed;
    }

    private static void everyCut() {
        for (int length = 0; length < WHOLE.length; length++) {
            Plugins.submit("the first " + length + " bytes", firstBytes(length), PluginHost.CUT, length);
        }
    }

    private static void everyNumberOutOfRange() {
        int[][] placesAndValues = {
            {0, 0, 79, 81, 255}, {1, 5, 80, 255}, {2, 8, 255}, {3, 8}, {4, 8}, {5, 8}, {6, 8}, {7, 8, 255},
            {8, 0, 5, 255}, {9, 3, 255}, {10, 4, 255}, {11, 0, 41, 255}, {15, 3, 255}, {16, 4, 255}, {17, 0, 41, 255}};
        for (int[] row : placesAndValues) {
            for (int i = 1; i < row.length; i++) {
                String name = "byte " + row[0] + " is " + row[i];
                Plugins.submit(name, with(row[0], row[i]), PluginHost.BADHEAD, row[0]);
            }
        }
    }

    private static void everyNumberAtItsEdge() {
        int ok = PluginHost.ACCEPTED;
        Plugins.submit("4 imports", Plugins.plugin(new int[][] {{0, 7, 0}, {7, 0, 7}, {0, 0, 0}, {7, 7, 7}},
            Plugins.function(0, 0, 0, 1, 16)), ok, -1);
        Plugins.submit("4 functions", Plugins.plugin(Plugins.NO_IMPORTS, Plugins.function(2, 3, 0, 1, 16),
            Plugins.function(0, 0, 0, 1, 16), Plugins.function(1, 2, 0, 1, 16), Plugins.function(2, 0, 0, 1, 16)), ok, -1);
        Plugins.submit("40 bytes of code", Plugins.single(0, 0, Plugins.codeOf(40)), ok, -1);
        Plugins.submit("1 byte of code", Plugins.single(0, 0, 16), PluginHost.BADFLOW, 6);
        Plugins.submit("120 bytes", Plugins.longest(), ok, -1);
    }

    private static void trailing() {
        for (int more = 1; more <= 3; more++) {
            int[] longer = java.util.Arrays.copyOf(WHOLE, WHOLE.length + more);
            Plugins.submit(more + " bytes more", longer, PluginHost.TRAILING, WHOLE.length);
        }
    }

    private static void theFirstCounts() {
        Plugins.submit("a wrong first byte and cut", Plugins.bytes(81), PluginHost.BADHEAD, 0);
        Plugins.submit("two wrong numbers", Plugins.bytes(80, 5, 9), PluginHost.BADHEAD, 1);
        Plugins.submit("cut after a good part", Plugins.bytes(80, 1, 7), PluginHost.CUT, 3);
        Plugins.submit("a wrong part and cut", Plugins.bytes(80, 1, 8), PluginHost.BADHEAD, 2);
        Plugins.submit("a wrong length and cut", Plugins.bytes(80, 0, 1, 0, 0, 41), PluginHost.BADHEAD, 5);
        Plugins.submit("cut in the code", Plugins.bytes(80, 0, 1, 0, 0, 40, 99), PluginHost.CUT, 7);
        Plugins.submit("cut, one byte of code missing", Plugins.bytes(80, 0, 1, 0, 0, 3, 0, 1), PluginHost.CUT, 8);
    }

    private static void codeIsOnlySkipped() {
        Plugins.submit("bad code, then trailing", Plugins.bytes(80, 0, 1, 0, 0, 2, 99, 99, 1), PluginHost.TRAILING, 8);
        Plugins.submit("bad code, then cut", Plugins.bytes(80, 0, 2, 0, 0, 2, 99, 99), PluginHost.CUT, 8);
        Plugins.submit("bad code, then a bad number", Plugins.bytes(80, 0, 2, 0, 0, 2, 99, 99, 3), PluginHost.BADHEAD, 8);
    }
}

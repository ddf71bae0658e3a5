import java.util.Arrays;

/** The edges of the plugin format: its ranges, and CUT, BADHEAD and TRAILING with their places. */
public final class EdgeFormatTest {
    private static final int ACCEPTED = PluginHost.ACCEPTED, CUT = PluginHost.CUT, BADHEAD = PluginHost.BADHEAD;
    private static final int TRAILING = PluginHost.TRAILING, BADCODE = PluginHost.BADCODE, BADFLOW = PluginHost.BADFLOW;
    private static final int[] SMALL = Plugins.function(0, 0, Plugins.PUSH, 1, Plugins.RETURN);
    private static final int[] SMALL_PLUGIN = Plugins.plugin(Plugins.NO_IMPORTS, SMALL);
    /** The most imports and the most functions. */
    private static final int[] LARGE = Plugins.plugin(imports(4), Plugins.function(2, 3, Plugins.codeOf(3)),
        Plugins.function(0, 0, Plugins.codeOf(5)), Plugins.function(1, 0, Plugins.codeOf(4)), Plugins.function(0, 2, Plugins.codeOf(40)));
    private static final int LARGE_FUNCTIONS_AT = 14;
    private static final int[] LARGE_HEADS = {15, 21, 29, 36};

    public static void main(String[] args) {
        firstByte();
        numberOfImports();
        partsOfImports();
        numberOfFunctions();
        numberOfParameters();
        numberOfFurtherLocals();
        lengthOfCode();
        nothingMore();
        missingBytes();
        numbersOutOfRange();
        bytesLeft();
        firstFinding();
        skippedCode();
        Check.end();
    }

    private static int[][] imports(int count) {
        int[][] imports = new int[count][];
        for (int i = 0; i < count; i++) {
            imports[i] = new int[] {i % 2 * 7, 7, 0};
        }
        return imports;
    }

    private static int[] functions(int[][] imports, int count) {
        int[][] functions = new int[count][];
        Arrays.fill(functions, SMALL);
        return Plugins.plugin(imports, functions);
    }

    private static int[] with(int at, int value) {
        int[] changed = LARGE.clone();
        changed[at] = value;
        return changed;
    }

    private static void submit(String name, int finding, int place, int... bytes) {
        Plugins.submit(name, bytes, finding, place);
    }

    private static void firstByte() {
        Check.sentence("80");
        submit("80", ACCEPTED, -1, LARGE);
        for (int first = 0; first <= 255; first++) {
            if (first != 80) {
                submit("the first byte is " + first, BADHEAD, 0, with(0, first));
                submit("the only byte is " + first, BADHEAD, 0, first);
            }
        }
    }

    private static void numberOfImports() {
        Check.sentence("the number of imports 0..4");
        for (int count = 0; count <= 4; count++) {
            submit(count + " imports", ACCEPTED, -1, functions(imports(count), 1));
        }
        submit("5 imports", BADHEAD, 1, functions(imports(5), 1));
        for (int count = 5; count <= 255; count++) {
            submit(count + " as the number of imports", BADHEAD, 1, with(1, count));
        }
    }

    private static void partsOfImports() {
        Check.sentence("for each import its three parts");
        for (int at = 2; at < LARGE_FUNCTIONS_AT; at++) {
            submit("byte " + at + " is 0", ACCEPTED, -1, with(at, 0));
            submit("byte " + at + " is 7", ACCEPTED, -1, with(at, 7));
            submit("byte " + at + " is 8", BADHEAD, at, with(at, 8));
            submit("byte " + at + " is 255", BADHEAD, at, with(at, 255));
        }
    }

    private static void numberOfFunctions() {
        Check.sentence("the number of functions 1..4");
        for (int imports = 0; imports <= 4; imports++) {
            int at = 2 + 3 * imports;
            submit("0 functions", BADHEAD, at, functions(imports(imports), 0));
            for (int count = 1; count <= 4; count++) {
                submit(count + " functions", ACCEPTED, -1, functions(imports(imports), count));
            }
            submit("5 functions", BADHEAD, at, functions(imports(imports), 5));
        }
        submit("255 as the number of functions", BADHEAD, LARGE_FUNCTIONS_AT, with(LARGE_FUNCTIONS_AT, 255));
    }

    private static void numberOfParameters() {
        Check.sentence("parameters 0..2");
        for (int head : LARGE_HEADS) {
            for (int count = 0; count <= 2; count++) {
                submit(count + " parameters at " + head, ACCEPTED, -1, with(head, count));
            }
            submit("3 parameters at " + head, BADHEAD, head, with(head, 3));
            submit("255 parameters at " + head, BADHEAD, head, with(head, 255));
        }
    }

    private static void numberOfFurtherLocals() {
        Check.sentence("further locals 0..3");
        for (int head : LARGE_HEADS) {
            for (int count = 0; count <= 3; count++) {
                submit(count + " further locals at " + head, ACCEPTED, -1, with(head + 1, count));
            }
            submit("4 further locals at " + head, BADHEAD, head + 1, with(head + 1, 4));
            submit("255 further locals at " + head, BADHEAD, head + 1, with(head + 1, 255));
        }
    }

    private static void lengthOfCode() {
        Check.sentence("code length 1..40, the code");
        for (int length = 3; length <= 40; length++) {
            submit("code of " + length, ACCEPTED, -1, Plugins.single(0, 0, Plugins.codeOf(length)));
        }
        submit("code of 2", ACCEPTED, -1, Plugins.single(0, 0, Plugins.JUMP, 254));
        // No code of one byte is a good one, but its length is in the range.
        submit("code of 1", BADFLOW, 6, Plugins.single(0, 0, Plugins.RETURN));
        submit("code of 0", BADHEAD, 5, Plugins.single(0, 0));
        submit("code of 41", BADHEAD, 5, Plugins.single(0, 0, Plugins.codeOf(41)));
        for (int head : LARGE_HEADS) {
            for (int length : new int[] {0, 41, 128, 255}) {
                submit("length " + length + " at " + head, BADHEAD, head + 2, with(head + 2, length));
            }
        }
    }

    private static void nothingMore() {
        Check.sentence("Then nothing more.");
        submit("the plugin alone", ACCEPTED, -1, LARGE);
        for (int more : new int[] {0, 16, 80, 255}) {
            int[] longer = Arrays.copyOf(LARGE, LARGE.length + 1);
            longer[LARGE.length] = more;
            submit("a further " + more, TRAILING, LARGE.length, longer);
        }
        int[] twice = Arrays.copyOf(SMALL_PLUGIN, 2 * SMALL_PLUGIN.length);
        System.arraycopy(SMALL_PLUGIN, 0, twice, SMALL_PLUGIN.length, SMALL_PLUGIN.length);
        submit("a plugin twice", TRAILING, SMALL_PLUGIN.length, twice);
    }

    private static void missingBytes() {
        Check.sentence("CUT if a byte of the format is missing (place: the number of bytes)");
        for (int length = 0; length < LARGE.length; length++) {
            submit("the first " + length + " bytes", CUT, length, Arrays.copyOf(LARGE, length));
        }
        submit("all bytes", ACCEPTED, -1, LARGE);
        int[] longest = Plugins.longest();
        for (int length = 0; length < longest.length; length++) {
            submit("the first " + length + " of 120 bytes", CUT, length, Arrays.copyOf(longest, length));
        }
        // The 120 bytes that fit hold a fourth function in part only.
        longest[5] = 4;
        submit("a plugin that would go on past 120 bytes", CUT, 120, longest);
    }

    private static void numbersOutOfRange() {
        Check.sentence("BADHEAD if the first byte isn't 80 or a number or an import's part is out of its range (place: that byte)");
        submit("as the first of 120 bytes", BADHEAD, 0, new int[120]);
        int[] longest = Plugins.longest();
        int lastHead = longest.length - 25 - 3;
        for (int i = 0; i < 3; i++) {
            int[] changed = longest.clone();
            changed[lastHead + i] = 41;
            submit("in the last head", BADHEAD, lastHead + i, changed);
        }
        submit("as the last byte that is there", BADHEAD, 5, 80, 0, 1, 0, 0, 0);
    }

    private static void bytesLeft() {
        Check.sentence("TRAILING if bytes are left at the end (place: the first)");
        for (int length = SMALL_PLUGIN.length + 1; length <= 120; length++) {
            submit((length - SMALL_PLUGIN.length) + " bytes left", TRAILING, SMALL_PLUGIN.length, Arrays.copyOf(SMALL_PLUGIN, length));
        }
        int[] longest = Plugins.longest();
        longest[longest.length - 26] = 24;
        submit("the 120th byte is left", TRAILING, 119, longest);
    }

    private static void firstFinding() {
        Check.sentence("The first of these in the order of reading counts.");
        int[] last = LARGE.clone();
        last[LARGE_HEADS[3] + 2] = 41;
        int[] places = {0, 1, 2, 13, 14, 15, 16, 17, 21, 22, 23, 29, 30, 31, 36, 37};
        for (int at : places) {
            int[] both = last.clone();
            both[at] = 99;
            submit("two out of range, the first at " + at, BADHEAD, at, both);
            submit("out of range as the last byte at " + at, BADHEAD, at, Arrays.copyOf(both, at + 1));
            submit("cut before what would be out of range at " + at, CUT, at, Arrays.copyOf(both, at));
            submit("out of range, then trailing", BADHEAD, at, Arrays.copyOf(both, 120));
        }
    }

    private static void skippedCode() {
        Check.sentence("Code bytes are only skipped here.");
        int[] odd = Plugins.function(0, 0, 255, 17, 80, 0);
        int[] plugin = Plugins.plugin(Plugins.NO_IMPORTS, odd, odd);
        submit("odd code", BADCODE, 6, plugin);
        submit("odd code, then trailing", TRAILING, plugin.length, Arrays.copyOf(plugin, plugin.length + 1));
        for (int length = 6; length < plugin.length; length++) {
            submit("odd code, cut after " + length, CUT, length, Arrays.copyOf(plugin, length));
        }
        for (int i = 0; i < 3; i++) {
            int[] changed = plugin.clone();
            changed[10 + i] = 200;
            submit("odd code, then a number out of range", BADHEAD, 10 + i, changed);
        }
    }
}

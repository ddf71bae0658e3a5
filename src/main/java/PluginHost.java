/**
 * A host for plugins that nobody trusts. Plugins come as bytes, are checked once when they are submitted, and run in
 * sandboxes. submit() looks at every operand and at where every instruction goes on to, so call() uses these as they are;
 * what only running tells, heights and activations, is looked at where it changes.
 */
public final class PluginHost {
    public static final int ACCEPTED = 0, CUT = 1, BADHEAD = 2, TRAILING = 3, BADCODE = 4, BADJUMP = 5, BADFLOW = 6, DENIED = 7, NOROOM = 8;
    public static final int RETURNED = 0, QUOTA = 1, DIVIDE = 2, DEEP = 3, BLOCKED = 4, REFUSED = 5;

    private static final int OP_PUSH = 0, OP_LOAD = 1, OP_STORE = 2, OP_ADD = 3, OP_SUB = 4, OP_MUL = 5, OP_DIV = 6, OP_LESS = 7;
    private static final int OP_DUP = 8, OP_POP = 9, OP_JUMP = 10, OP_JZERO = 11, OP_CALL = 12, OP_HOST = 13;
    private static final int OP_GGET = 14, OP_GSET = 15, OP_RETURN = 16;

    private static final int MAX_RULES = 12, MAX_PARTS = 3, MAX_PART = 7;
    private static final int MAX_BYTES = 120, MAX_BYTE = 255, MAGIC = 80, MAX_IMPORTS = 4, MAX_FUNCTIONS = 4;
    private static final int MAX_PARAMETERS = 2, MAX_FURTHER = 3, MAX_CODE = 40;
    private static final int MAX_PLUGINS = 3, MAX_BOXES = 4, MAX_QUOTA = 2000, STATICS = 4;
    private static final int MAX_LOCALS = 5, MAX_ENTRIES = 6, MAX_ACTIVATIONS = 6, HOST_EXTRA = 4;

    // In the bytes: the imports follow the first byte and their number, the code follows a function's three numbers.
    private static final int IMPORTS_AT = 2, HEAD_SIZE = 3;
    private static final int ALL_PLUGIN_BYTES = MAX_PLUGINS * MAX_BYTES, ALL_FUNCTIONS = MAX_PLUGINS * MAX_FUNCTIONS;
    private static final int ALL_STATICS = MAX_BOXES * STATICS;
    private static final int ALL_LOCALS = MAX_ACTIVATIONS * MAX_LOCALS, ALL_ENTRIES = MAX_ACTIVATIONS * MAX_ENTRIES;

    private static final int NONE = -1, UNREACHED = -1, GOES_ON = -1;

    // Every instruction that is run is paid for, so a call ends within MAX_QUOTA instructions; one step more sees the QUOTA.
    private static final int MAX_STEPS = MAX_QUOTA + 1;

    private final int[] rulePacked = new int[MAX_RULES];
    private final int[] ruleA = new int[MAX_RULES];
    private final int[] ruleB = new int[MAX_RULES];
    private final int[] ruleC = new int[MAX_RULES];
    private int ruleCount = 0;

    private final int[] bytes = new int[MAX_BYTES];
    private int byteCount = 0;

    // What the checks of the latest submit() know about the bytes; an index is a place in the bytes.
    private final int[] heads = new int[MAX_FUNCTIONS];
    private int functionCount = 0;
    private final boolean[] starts = new boolean[MAX_BYTES];
    private final boolean[] begins = new boolean[MAX_BYTES];
    private final int[] costs = new int[MAX_BYTES];
    private final int[] entries = new int[MAX_BYTES];
    private final int[] reached = new int[MAX_CODE];
    private int reachedCount = 0;
    private int readAt = 0;
    private int finding = ACCEPTED;
    private int foundPlace = NONE;
    private int givenNumber = NONE;

    // Plugin p has the bytes from p * MAX_BYTES on; its heads are places in all plugins' bytes.
    private final boolean[] loaded = new boolean[MAX_PLUGINS];
    private final int[] image = new int[ALL_PLUGIN_BYTES];
    private final int[] imageCosts = new int[ALL_PLUGIN_BYTES];
    private final int[] imageHeads = new int[ALL_FUNCTIONS];
    private final int[] imageFunctions = new int[MAX_PLUGINS];

    private final boolean[] opened = new boolean[MAX_BOXES];
    private final int[] boxPlugin = new int[MAX_BOXES];
    private final int[] boxQuota = new int[MAX_BOXES];
    private final int[] statics = new int[ALL_STATICS];

    // The activations of the call that runs; the newest is the one that goes on.
    private final int[] nextAt = new int[MAX_ACTIVATIONS];
    private final int[] heights = new int[MAX_ACTIVATIONS];
    private final int[] locals = new int[ALL_LOCALS];
    private final int[] stack = new int[ALL_ENTRIES];
    private int activations = 0;
    private int latestResult = 0;
    private long hostMemory = 0;

    public PluginHost() {
    }

    public boolean rule(int packed, int a, int b, int c) {
        int parts = packed >> 1;
        if (parts < 0 || parts > MAX_PARTS || ruleCount >= MAX_RULES) {
            return false;
        }
        if (parts > 0 && !isPart(a) || parts > 1 && !isPart(b) || parts > 2 && !isPart(c)) {
            return false;
        }
        rulePacked[ruleCount] = packed;
        ruleA[ruleCount] = a;
        ruleB[ruleCount] = b;
        ruleC[ruleCount] = c;
        ruleCount++;
        return true;
    }

    public boolean unrule() {
        if (ruleCount == 0) {
            return false;
        }
        ruleCount--;
        return true;
    }

    public boolean allows(int a, int b, int c) {
        return isPart(a) && isPart(b) && isPart(c) && permits(a, b, c);
    }

    public boolean put(int b) {
        if (b < 0 || b > MAX_BYTE || byteCount >= MAX_BYTES) {
            return false;
        }
        bytes[byteCount] = b;
        byteCount++;
        return true;
    }

    public int wipe() {
        int wiped = byteCount;
        byteCount = 0;
        return wiped;
    }

    public int submit() {
        finding = ACCEPTED;
        foundPlace = NONE;
        givenNumber = NONE;
        checkFormat();
        if (finding == ACCEPTED) {
            checkInstructions();
        }
        if (finding == ACCEPTED) {
            checkJumps();
        }
        if (finding == ACCEPTED) {
            checkFlows();
        }
        if (finding == ACCEPTED) {
            checkImports();
        }
        if (finding == ACCEPTED) {
            admit();
        }
        return finding;
    }

    public int place() {
        return foundPlace;
    }

    public int number() {
        return givenNumber;
    }

    public int open(int p, int quota) {
        if (!isPlugin(p) || quota < 0 || quota > MAX_QUOTA) {
            return NONE;
        }
        for (int x = 0; x < MAX_BOXES; x++) {
            if (!opened[x]) {
                prepareBox(x, p, quota);
                return x;
            }
        }
        return NONE;
    }

    public boolean close(int x) {
        if (!isBox(x)) {
            return false;
        }
        opened[x] = false;
        return true;
    }

    public boolean unload(int p) {
        if (!isPlugin(p)) {
            return false;
        }
        for (int x = 0; x < MAX_BOXES; x++) {
            if (opened[x] && boxPlugin[x] == p) {
                return false;
            }
        }
        loaded[p] = false;
        return true;
    }

    public int call(int x, int f, int a, int b) {
        if (!isBox(x)) {
            return REFUSED;
        }
        int p = boxPlugin[x];
        if (f < 0 || f >= imageFunctions[p]) {
            return REFUSED;
        }
        if (firstDenied(image, p * MAX_BYTES) != NONE) {
            return BLOCKED;
        }
        latestResult = 0;
        activations = 0;
        int head = imageHeads[p * MAX_FUNCTIONS + f];
        clearLocals();
        if (image[head] > 0) {
            locals[0] = a;
        }
        if (image[head] > 1) {
            locals[1] = b;
        }
        activate(head);
        return run(x);
    }

    public int result() {
        return latestResult;
    }

    public int left(int x) {
        return isBox(x) ? boxQuota[x] : NONE;
    }

    public int peek(int x, int s) {
        return isBox(x) && s >= 0 && s < STATICS ? statics[x * STATICS + s] : 0;
    }

    public long memory() {
        return hostMemory;
    }

    // The policy

    private boolean isPart(int part) {
        return part >= 0 && part <= MAX_PART;
    }

    private boolean permits(int a, int b, int c) {
        int longest = NONE;
        boolean allowed = false;
        for (int r = 0; r < ruleCount; r++) {
            int parts = rulePacked[r] >> 1;
            // Rules stand in the order of their age, so of equally long prefixes the later one counts.
            if (parts >= longest && prefixFits(r, a, b, c)) {
                longest = parts;
                allowed = (rulePacked[r] & 1) == 1;
            }
        }
        return allowed;
    }

    private boolean prefixFits(int r, int a, int b, int c) {
        int parts = rulePacked[r] >> 1;
        return (parts < 1 || ruleA[r] == a) && (parts < 2 || ruleB[r] == b) && (parts < 3 || ruleC[r] == c);
    }

    // The place, counted from base, of the first import that the policy denies.
    private int firstDenied(int[] plugin, int base) {
        int imports = plugin[base + 1];
        for (int i = 0; i < imports; i++) {
            int at = IMPORTS_AT + MAX_PARTS * i;
            if (!permits(plugin[base + at], plugin[base + at + 1], plugin[base + at + 2])) {
                return at;
            }
        }
        return NONE;
    }

    // The checks

    private void refuse(int why, int where) {
        finding = why;
        foundPlace = where;
    }

    private void checkFormat() {
        readAt = 0;
        readNumber(MAGIC, MAGIC);
        int parts = MAX_PARTS * readNumber(0, MAX_IMPORTS);
        for (int i = 0; i < parts; i++) {
            readNumber(0, MAX_PART);
        }
        functionCount = readNumber(1, MAX_FUNCTIONS);
        for (int f = 0; f < functionCount; f++) {
            heads[f] = readAt;
            readNumber(0, MAX_PARAMETERS);
            readNumber(0, MAX_FURTHER);
            int length = readNumber(1, MAX_CODE);
            skipCode(length);
        }
        if (finding == ACCEPTED && readAt < byteCount) {
            refuse(TRAILING, readAt);
        }
    }

    // After a finding nothing more is read, so the first one stays.
    private int readNumber(int least, int most) {
        if (finding != ACCEPTED) {
            return 0;
        }
        if (readAt >= byteCount) {
            refuse(CUT, byteCount);
            return 0;
        }
        int value = bytes[readAt];
        if (value < least || value > most) {
            refuse(BADHEAD, readAt);
            return 0;
        }
        readAt++;
        return value;
    }

    private void skipCode(int length) {
        if (finding != ACCEPTED) {
            return;
        }
        if (readAt + length > byteCount) {
            refuse(CUT, byteCount);
            return;
        }
        readAt += length;
    }

    private int codeFirst(int f) {
        return heads[f] + HEAD_SIZE;
    }

    private int codeEnd(int f) {
        return heads[f] + HEAD_SIZE + bytes[heads[f] + HEAD_SIZE - 1];
    }

    private boolean hasOperand(int code) {
        return code <= OP_STORE || code >= OP_JUMP && code <= OP_GSET;
    }

    private int sizeOf(int code) {
        return hasOperand(code) ? 2 : 1;
    }

    private boolean isJump(int code) {
        return code == OP_JUMP || code == OP_JZERO;
    }

    private int jumpTarget(int[] plugin, int at) {
        return at + 2 + (byte) plugin[at + 1];
    }

    private void checkInstructions() {
        for (int at = 0; at < MAX_BYTES; at++) {
            starts[at] = false;
        }
        for (int f = 0; f < functionCount && finding == ACCEPTED; f++) {
            int end = codeEnd(f);
            int next = codeFirst(f);
            for (int at = next; at < end && finding == ACCEPTED; at++) {
                if (at == next && isBadCode(f, at, end)) {
                    refuse(BADCODE, at);
                } else if (at == next) {
                    starts[at] = true;
                    next = at + sizeOf(bytes[at]);
                }
            }
        }
    }

    private boolean isBadCode(int f, int at, int end) {
        int code = bytes[at];
        if (code > OP_RETURN) {
            return true;
        }
        if (!hasOperand(code)) {
            return false;
        }
        return at + 1 >= end || bytes[at + 1] >= operandLimit(f, code);
    }

    private int operandLimit(int f, int code) {
        switch (code) {
            case OP_LOAD:
            case OP_STORE:
                return bytes[heads[f]] + bytes[heads[f] + 1];
            case OP_CALL:
                return functionCount;
            case OP_HOST:
                return bytes[1];
            case OP_GGET:
            case OP_GSET:
                return STATICS;
            default:
                return MAX_BYTE + 1;
        }
    }

    private void checkJumps() {
        for (int f = 0; f < functionCount; f++) {
            int first = codeFirst(f);
            int end = codeEnd(f);
            for (int at = first; at < end && finding == ACCEPTED; at++) {
                if (starts[at] && isJump(bytes[at])) {
                    int target = jumpTarget(bytes, at);
                    if (target < first || target >= end || !starts[target]) {
                        refuse(BADJUMP, at);
                    }
                }
            }
        }
    }

    private void checkFlows() {
        for (int f = 0; f < functionCount && finding == ACCEPTED; f++) {
            if (!flowHolds(f)) {
                int first = codeFirst(f);
                refuse(BADFLOW, first);
            }
        }
    }

    private boolean flowHolds(int f) {
        int first = codeFirst(f);
        int end = codeEnd(f);
        for (int at = first; at < end; at++) {
            entries[at] = UNREACHED;
        }
        reachedCount = 0;
        boolean holds = reach(first, end, 0);
        // An instruction is noted as reached once only, so there are at most MAX_CODE to follow.
        for (int done = 0; done < MAX_CODE && done < reachedCount && holds; done++) {
            holds = follow(reached[done], end);
        }
        return holds;
    }

    private boolean reach(int at, int end, int height) {
        if (at >= end) {
            return false;
        }
        if (entries[at] == UNREACHED && reachedCount < MAX_CODE) {
            entries[at] = height;
            reached[reachedCount] = at;
            reachedCount++;
        }
        return entries[at] == height;
    }

    private boolean follow(int at, int end) {
        int code = bytes[at];
        int taken = entriesTaken(at);
        int height = entries[at] - taken + entriesGiven(code);
        if (entries[at] < taken || height > MAX_ENTRIES) {
            return false;
        }
        boolean holds = true;
        if (isJump(code)) {
            int target = jumpTarget(bytes, at);
            holds = reach(target, end, height);
        }
        if (code != OP_JUMP && code != OP_RETURN) {
            int next = at + sizeOf(code);
            holds = holds && reach(next, end, height);
        }
        return holds;
    }

    private int entriesTaken(int at) {
        switch (bytes[at]) {
            case OP_PUSH:
            case OP_LOAD:
            case OP_GGET:
            case OP_JUMP:
                return 0;
            case OP_ADD:
            case OP_SUB:
            case OP_MUL:
            case OP_DIV:
            case OP_LESS:
                return 2;
            case OP_CALL:
                return bytes[heads[bytes[at + 1]]];
            default:
                return 1;
        }
    }

    private int entriesGiven(int code) {
        switch (code) {
            case OP_STORE:
            case OP_POP:
            case OP_JUMP:
            case OP_JZERO:
            case OP_GSET:
            case OP_RETURN:
                return 0;
            case OP_DUP:
                return 2;
            default:
                return 1;
        }
    }

    private void checkImports() {
        int denied = firstDenied(bytes, 0);
        if (denied != NONE) {
            refuse(DENIED, denied);
        }
    }

    // Taking a plugin in

    private void admit() {
        int p = NONE;
        for (int i = MAX_PLUGINS - 1; i >= 0; i--) {
            if (!loaded[i]) {
                p = i;
            }
        }
        if (p == NONE) {
            finding = NOROOM;
            return;
        }
        markBlocks();
        sumCosts();
        keep(p);
        givenNumber = p;
        byteCount = 0;
    }

    private void markBlocks() {
        for (int at = 0; at < MAX_BYTES; at++) {
            begins[at] = false;
        }
        for (int f = 0; f < functionCount; f++) {
            int first = codeFirst(f);
            int end = codeEnd(f);
            begins[first] = true;
            for (int at = first; at < end; at++) {
                if (starts[at]) {
                    markAround(at, end);
                }
            }
        }
    }

    private void markAround(int at, int end) {
        int code = bytes[at];
        if (isJump(code)) {
            int target = jumpTarget(bytes, at);
            begins[target] = true;
        }
        int next = at + sizeOf(code);
        if (next < end && endsBlock(code)) {
            begins[next] = true;
        }
    }

    private boolean endsBlock(int code) {
        return isJump(code) || code == OP_CALL || code == OP_HOST || code == OP_RETURN;
    }

    // Only a block's first instruction bears a cost, the block's; all others bear 0.
    private void sumCosts() {
        int begin = 0;
        for (int at = 0; at < byteCount; at++) {
            costs[at] = 0;
            if (begins[at]) {
                begin = at;
            }
            if (starts[at]) {
                costs[begin] += bytes[at] == OP_HOST ? 1 + HOST_EXTRA : 1;
            }
        }
    }

    private void keep(int p) {
        int base = p * MAX_BYTES;
        for (int at = 0; at < byteCount; at++) {
            image[base + at] = bytes[at];
            imageCosts[base + at] = costs[at];
        }
        for (int f = 0; f < functionCount; f++) {
            imageHeads[p * MAX_FUNCTIONS + f] = base + heads[f];
        }
        imageFunctions[p] = functionCount;
        loaded[p] = true;
    }

    private boolean isPlugin(int p) {
        return p >= 0 && p < MAX_PLUGINS && loaded[p];
    }

    // Sandboxes

    private boolean isBox(int x) {
        return x >= 0 && x < MAX_BOXES && opened[x];
    }

    private void prepareBox(int x, int p, int quota) {
        opened[x] = true;
        boxPlugin[x] = p;
        boxQuota[x] = quota;
        for (int s = 0; s < STATICS; s++) {
            statics[x * STATICS + s] = 0;
        }
    }

    // Running

    private int run(int x) {
        for (int step = 0; step < MAX_STEPS; step++) {
            int at = nextAt[activations - 1];
            if (boxQuota[x] < imageCosts[at]) {
                return QUOTA;
            }
            boxQuota[x] -= imageCosts[at];
            int ending = perform(x, at);
            if (ending != GOES_ON) {
                return ending;
            }
        }
        return QUOTA;
    }

    private int perform(int x, int at) {
        int code = image[at];
        int operand = hasOperand(code) ? image[at + 1] : 0;
        int top = activations - 1;
        nextAt[top] = at + sizeOf(code);
        switch (code) {
            case OP_PUSH:
                push((byte) operand);
                return GOES_ON;
            case OP_LOAD:
                push(locals[top * MAX_LOCALS + operand]);
                return GOES_ON;
            case OP_STORE:
                locals[top * MAX_LOCALS + operand] = pop();
                return GOES_ON;
            case OP_DUP:
                int doubled = pop();
                push(doubled);
                push(doubled);
                return GOES_ON;
            case OP_POP:
                pop();
                return GOES_ON;
            case OP_JUMP:
                nextAt[top] = jumpTarget(image, at);
                return GOES_ON;
            case OP_JZERO:
                if (pop() == 0) {
                    nextAt[top] = jumpTarget(image, at);
                }
                return GOES_ON;
            case OP_CALL:
                return callWithin(boxPlugin[x], operand);
            case OP_HOST:
                askHost(boxPlugin[x] * MAX_BYTES + IMPORTS_AT + MAX_PARTS * operand);
                return GOES_ON;
            case OP_GGET:
                push(statics[x * STATICS + operand]);
                return GOES_ON;
            case OP_GSET:
                statics[x * STATICS + operand] = pop();
                return GOES_ON;
            case OP_RETURN:
                return leave();
            default:
                return calculate(code);
        }
    }

    // The flow check lets no plugin in that runs out of room or of entries; push() and pop() look all the same, so that
    // no call throws even if it did.
    private void push(int value) {
        int top = activations - 1;
        if (heights[top] < MAX_ENTRIES) {
            stack[top * MAX_ENTRIES + heights[top]] = value;
            heights[top]++;
        }
    }

    private int pop() {
        int top = activations - 1;
        if (heights[top] == 0) {
            return 0;
        }
        heights[top]--;
        return stack[top * MAX_ENTRIES + heights[top]];
    }

    private int calculate(int code) {
        int second = pop();
        int first = pop();
        if (code == OP_DIV && second == 0) {
            return DIVIDE;
        }
        int answer = 0;
        switch (code) {
            case OP_ADD:
                answer = first + second;
                break;
            case OP_SUB:
                answer = first - second;
                break;
            case OP_MUL:
                answer = first * second;
                break;
            case OP_DIV:
                answer = first / second;
                break;
            default:
                answer = first < second ? 1 : 0;
                break;
        }
        push(answer);
        return GOES_ON;
    }

    private void clearLocals() {
        for (int i = 0; i < MAX_LOCALS; i++) {
            locals[activations * MAX_LOCALS + i] = 0;
        }
    }

    private void activate(int head) {
        heights[activations] = 0;
        nextAt[activations] = head + HEAD_SIZE;
        activations++;
    }

    private int callWithin(int p, int f) {
        if (activations >= MAX_ACTIVATIONS) {
            return DEEP;
        }
        int head = imageHeads[p * MAX_FUNCTIONS + f];
        clearLocals();
        for (int i = image[head] - 1; i >= 0; i--) {
            locals[activations * MAX_LOCALS + i] = pop();
        }
        activate(head);
        return GOES_ON;
    }

    private int leave() {
        int answer = pop();
        activations--;
        if (activations == 0) {
            latestResult = answer;
            return RETURNED;
        }
        push(answer);
        return GOES_ON;
    }

    private void askHost(int path) {
        long value = pop();
        hostMemory = hostMemory * 33 + value * 512 + (64 * image[path] + 8 * image[path + 1] + image[path + 2]);
        push((int) (hostMemory >>> 20));
    }
}

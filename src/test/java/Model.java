import java.util.ArrayList;
import java.util.HashMap;
import java.util.HashSet;
import java.util.List;
import java.util.Map;
import java.util.Set;
import java.util.TreeSet;

/**
 * The document told a second time, with lists, maps, exceptions and recursion, for ModelTest to compare with. It shares
 * no code and, where there is a choice, no way of working with PluginHost.
 */
final class Model {
    private static final Set<Integer> WITH_OPERAND = Set.of(0, 1, 2, 10, 11, 12, 13, 14, 15);
    private static final Set<Integer> BLOCK_ENDS = Set.of(10, 11, 12, 13, 16);

    private static final class Finding extends RuntimeException {
        private static final long serialVersionUID = 1L;
        final int what;
        final int where;

        Finding(int what, int where) {
            this.what = what;
            this.where = where;
        }
    }

    private static final class Ending extends RuntimeException {
        private static final long serialVersionUID = 1L;
        final int how;

        Ending(int how) {
            this.how = how;
        }
    }

    private static final class Rule {
        final List<Integer> prefix = new ArrayList<>();
        boolean allows;
    }

    private static final class Function {
        int parameters;
        int further;
        int first;
        int[] code;
        final TreeSet<Integer> instructions = new TreeSet<>();
        final Map<Integer, Integer> costs = new HashMap<>();
    }

    private static final class Plugin {
        final List<List<Integer>> imports = new ArrayList<>();
        final List<Function> functions = new ArrayList<>();
    }

    private static final class Box {
        Plugin plugin;
        int quota;
        final int[] statics = new int[4];
    }

    private final List<Rule> rules = new ArrayList<>();
    private final List<Integer> bytes = new ArrayList<>();
    private final Plugin[] plugins = new Plugin[3];
    private final Box[] boxes = new Box[4];
    private int place = -1;
    private int number = -1;
    private int result = 0;
    private long memory = 0;
    private int cursor;

    boolean rule(int packed, int a, int b, int c) {
        int parts = Math.floorDiv(packed, 2);
        if (parts < 0 || parts > 3 || rules.size() == 12) {
            return false;
        }
        Rule rule = new Rule();
        rule.prefix.addAll(List.of(a, b, c).subList(0, parts));
        rule.allows = Math.floorMod(packed, 2) == 1;
        if (rule.prefix.stream().anyMatch(part -> part < 0 || part > 7)) {
            return false;
        }
        return rules.add(rule);
    }

    boolean unrule() {
        return !rules.isEmpty() && rules.remove(rules.size() - 1) != null;
    }

    boolean allows(int a, int b, int c) {
        List<Integer> path = List.of(a, b, c);
        return path.stream().allMatch(part -> part >= 0 && part <= 7) && allowsPath(path);
    }

    private boolean allowsPath(List<Integer> path) {
        for (int length = 3; length >= 0; length--) {
            for (int age = rules.size() - 1; age >= 0; age--) {
                if (rules.get(age).prefix.equals(path.subList(0, length))) {
                    return rules.get(age).allows;
                }
            }
        }
        return false;
    }

    boolean put(int b) {
        return b >= 0 && b <= 255 && bytes.size() < 120 && bytes.add(b);
    }

    int wipe() {
        int size = bytes.size();
        bytes.clear();
        return size;
    }

    int submit() {
        place = -1;
        number = -1;
        try {
            Plugin plugin = read();
            plugin.functions.forEach(function -> checkCode(plugin, function));
            plugin.functions.forEach(this::checkJumps);
            plugin.functions.forEach(function -> checkWays(plugin, function));
            for (int i = 0; i < plugin.imports.size(); i++) {
                if (!allowsPath(plugin.imports.get(i))) {
                    throw new Finding(7, 2 + 3 * i);
                }
            }
            return keep(plugin);
        } catch (Finding finding) {
            place = finding.where;
            return finding.what;
        }
    }

    private int keep(Plugin plugin) {
        for (int p = 0; p < 3; p++) {
            if (plugins[p] == null) {
                plugin.functions.forEach(this::findCosts);
                plugins[p] = plugin;
                number = p;
                bytes.clear();
                return 0;
            }
        }
        return 8;
    }

    private int next() {
        if (cursor == bytes.size()) {
            throw new Finding(1, bytes.size());
        }
        return bytes.get(cursor++);
    }

    private int next(int least, int most) {
        int value = next();
        if (value < least || value > most) {
            throw new Finding(2, cursor - 1);
        }
        return value;
    }

    private Plugin read() {
        cursor = 0;
        next(80, 80);
        Plugin plugin = new Plugin();
        int imports = next(0, 4);
        for (int i = 0; i < imports; i++) {
            List<Integer> path = new ArrayList<>();
            for (int part = 0; part < 3; part++) {
                path.add(next(0, 7));
            }
            plugin.imports.add(path);
        }
        int functions = next(1, 4);
        for (int f = 0; f < functions; f++) {
            Function function = new Function();
            function.parameters = next(0, 2);
            function.further = next(0, 3);
            function.code = new int[next(1, 40)];
            function.first = cursor;
            for (int i = 0; i < function.code.length; i++) {
                function.code[i] = next();
            }
            plugin.functions.add(function);
        }
        if (cursor != bytes.size()) {
            throw new Finding(3, cursor);
        }
        return plugin;
    }

    private void checkCode(Plugin plugin, Function function) {
        int at = 0;
        while (at < function.code.length) {
            int code = function.code[at];
            boolean operand = WITH_OPERAND.contains(code);
            boolean bad = code > 16 || operand && at + 1 == function.code.length;
            if (!bad && operand) {
                int b = function.code[at + 1];
                bad = (code == 1 || code == 2) && b >= function.parameters + function.further
                    || code == 12 && b >= plugin.functions.size()
                    || code == 13 && b >= plugin.imports.size()
                    || (code == 14 || code == 15) && b > 3;
            }
            if (bad) {
                throw new Finding(4, function.first + at);
            }
            function.instructions.add(at);
            at += operand ? 2 : 1;
        }
    }

    private static int target(Function function, int at) {
        int b = function.code[at + 1];
        return at + 2 + (b > 127 ? b - 256 : b);
    }

    private void checkJumps(Function function) {
        for (int at : function.instructions) {
            int code = function.code[at];
            if ((code == 10 || code == 11) && !function.instructions.contains(target(function, at))) {
                throw new Finding(5, function.first + at);
            }
        }
    }

    private void checkWays(Plugin plugin, Function function) {
        Map<Integer, Set<Integer>> heights = new HashMap<>();
        boolean holds = goWays(plugin, function, 0, 0, heights);
        if (!holds || heights.values().stream().anyMatch(seen -> seen.size() > 1)) {
            throw new Finding(6, function.first);
        }
    }

    private boolean goWays(Plugin plugin, Function function, int at, int height, Map<Integer, Set<Integer>> heights) {
        if (at == function.code.length) {
            return false;
        }
        if (!heights.computeIfAbsent(at, key -> new HashSet<>()).add(height)) {
            return true;
        }
        int code = function.code[at];
        int needs;
        int change;
        if (code == 0 || code == 1 || code == 14) {
            needs = 0;
            change = 1;
        } else if (code >= 3 && code <= 7) {
            needs = 2;
            change = -1;
        } else if (code == 8) {
            needs = 1;
            change = 1;
        } else if (code == 10) {
            needs = 0;
            change = 0;
        } else if (code == 12) {
            needs = plugin.functions.get(function.code[at + 1]).parameters;
            change = 1 - needs;
        } else if (code == 13) {
            needs = 1;
            change = 0;
        } else {
            needs = 1;
            change = -1;
        }
        if (height < needs || height == 6 && change == 1) {
            return false;
        }
        int after = at + (WITH_OPERAND.contains(code) ? 2 : 1);
        switch (code) {
            case 16: return true;
            case 10: return goWays(plugin, function, target(function, at), height + change, heights);
            case 11: return goWays(plugin, function, target(function, at), height + change, heights)
                && goWays(plugin, function, after, height + change, heights);
            default: return goWays(plugin, function, after, height + change, heights);
        }
    }

    private void findCosts(Function function) {
        TreeSet<Integer> begins = new TreeSet<>();
        begins.add(0);
        for (int at : function.instructions) {
            int code = function.code[at];
            if (code == 10 || code == 11) {
                begins.add(target(function, at));
            }
            if (BLOCK_ENDS.contains(code) && function.instructions.higher(at) != null) {
                begins.add(function.instructions.higher(at));
            }
        }
        for (int begin : begins) {
            Integer end = begins.higher(begin);
            Set<Integer> block = function.instructions.subSet(begin, end == null ? function.code.length : end);
            boolean asks = block.stream().anyMatch(at -> function.code[at] == 13);
            function.costs.put(begin, block.size() + (asks ? 4 : 0));
        }
    }

    int place() {
        return place;
    }

    int number() {
        return number;
    }

    int open(int p, int quota) {
        if (p < 0 || p > 2 || plugins[p] == null || quota < 0 || quota > 2000) {
            return -1;
        }
        for (int x = 0; x < 4; x++) {
            if (boxes[x] == null) {
                boxes[x] = new Box();
                boxes[x].plugin = plugins[p];
                boxes[x].quota = quota;
                return x;
            }
        }
        return -1;
    }

    private Box box(int x) {
        return x < 0 || x > 3 ? null : boxes[x];
    }

    boolean close(int x) {
        if (box(x) == null) {
            return false;
        }
        boxes[x] = null;
        return true;
    }

    boolean unload(int p) {
        if (p < 0 || p > 2 || plugins[p] == null) {
            return false;
        }
        for (Box box : boxes) {
            if (box != null && box.plugin == plugins[p]) {
                return false;
            }
        }
        plugins[p] = null;
        return true;
    }

    int call(int x, int f, int a, int b) {
        Box box = box(x);
        if (box == null || f < 0 || f >= box.plugin.functions.size()) {
            return 5;
        }
        if (!box.plugin.imports.stream().allMatch(this::allowsPath)) {
            return 4;
        }
        Function function = box.plugin.functions.get(f);
        try {
            result = 0;
            result = run(box, function, List.of(a, b).subList(0, function.parameters), 1);
            return 0;
        } catch (Ending ending) {
            return ending.how;
        }
    }

    private int run(Box box, Function function, List<Integer> parameters, int depth) {
        int[] locals = new int[5];
        for (int i = 0; i < parameters.size(); i++) {
            locals[i] = parameters.get(i);
        }
        List<Integer> stack = new ArrayList<>();
        int at = 0;
        while (true) {
            Integer cost = function.costs.get(at);
            if (cost != null && cost > box.quota) {
                throw new Ending(1);
            }
            box.quota -= cost == null ? 0 : cost;
            int code = function.code[at];
            int b = WITH_OPERAND.contains(code) ? function.code[at + 1] : 0;
            int after = at + (WITH_OPERAND.contains(code) ? 2 : 1);
            switch (code) {
                case 0: stack.add(b > 127 ? b - 256 : b); break;
                case 1: stack.add(locals[b]); break;
                case 2: locals[b] = last(stack); break;
                case 8: stack.add(stack.get(stack.size() - 1)); break;
                case 9: last(stack); break;
                case 10: after = target(function, at); break;
                case 11: after = last(stack) == 0 ? target(function, at) : after; break;
                case 12: stack.add(callFrom(box, stack, box.plugin.functions.get(b), depth)); break;
                case 13: stack.add(host(box.plugin.imports.get(b), last(stack))); break;
                case 14: stack.add(box.statics[b]); break;
                case 15: box.statics[b] = last(stack); break;
                case 16: return last(stack);
                default: stack.add(compute(code, last(stack), last(stack))); break;
            }
            at = after;
        }
    }

    private static int last(List<Integer> stack) {
        return stack.remove(stack.size() - 1);
    }

    private int callFrom(Box box, List<Integer> stack, Function function, int depth) {
        if (depth == 6) {
            throw new Ending(3);
        }
        List<Integer> topmost = stack.subList(stack.size() - function.parameters, stack.size());
        List<Integer> parameters = new ArrayList<>(topmost);
        topmost.clear();
        return run(box, function, parameters, depth + 1);
    }

    private int host(List<Integer> path, int v) {
        memory = memory * 33 + v * 512L + 64 * path.get(0) + 8 * path.get(1) + path.get(2);
        return (int) (memory >>> 20);
    }

    private static int compute(int code, long second, long first) {
        switch (code) {
            case 3: return (int) (first + second);
            case 4: return (int) (first - second);
            case 5: return (int) (first * second);
            case 6:
                if (second == 0) {
                    throw new Ending(2);
                }
                return (int) (first / second);
            default: return first < second ? 1 : 0;
        }
    }

    int result() {
        return result;
    }

    int left(int x) {
        return box(x) == null ? -1 : box(x).quota;
    }

    int peek(int x, int s) {
        return box(x) == null || s < 0 || s > 3 ? 0 : box(x).statics[s];
    }

    long memory() {
        return memory;
    }
}

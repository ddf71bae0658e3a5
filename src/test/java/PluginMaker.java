import java.util.ArrayList;
import java.util.List;
import java.util.Random;

/** Makes plugins of which many pass all checks, and spoils some of them. */
final class PluginMaker {
    private final Random random;
    private int imports;
    private int[] parameters;
    private int[] further;

    PluginMaker(Random random) {
        this.random = random;
    }

    List<Integer> make() {
        List<Integer> bytes = new ArrayList<>();
        imports = random.nextInt(5) * random.nextInt(2);
        bytes.add(80);
        bytes.add(imports);
        for (int i = 0; i < 3 * imports; i++) {
            bytes.add(random.nextInt(3));
        }
        int functions = 1 + random.nextInt(4);
        parameters = new int[functions];
        further = new int[functions];
        for (int f = 0; f < functions; f++) {
            parameters[f] = random.nextInt(3);
            further[f] = random.nextInt(4);
        }
        bytes.add(functions);
        for (int f = 0; f < functions; f++) {
            int room = Math.min(40, (120 - bytes.size()) / (functions - f) - 3);
            List<Integer> code = code(f, 3 + random.nextInt(room - 2));
            bytes.add(parameters[f]);
            bytes.add(further[f]);
            bytes.add(code.size());
            bytes.addAll(code);
        }
        if (random.nextInt(3) == 0) {
            spoil(bytes);
        }
        return bytes;
    }

    private void spoil(List<Integer> bytes) {
        int at = random.nextInt(bytes.size());
        switch (random.nextInt(6)) {
            case 0: bytes.subList(at, bytes.size()).clear(); break;
            case 1: bytes.add(random.nextInt(256)); break;
            case 2: bytes.remove(at); break;
            case 3: bytes.add(at, random.nextInt(20)); break;
            case 4: bytes.set(at, random.nextInt(256)); break;
            default: bytes.set(at, random.nextInt(18)); break;
        }
    }

    /** Follows the height along the code; jumps go, if they can, where the height is the same. */
    private List<Integer> code(int f, int length) {
        List<Integer> code = new ArrayList<>();
        List<Integer> places = new ArrayList<>();
        List<Integer> heights = new ArrayList<>();
        List<Integer> jumps = new ArrayList<>();
        List<Integer> jumpHeights = new ArrayList<>();
        int height = 0;
        while (code.size() < length - 3) {
            int op = random.nextInt(17);
            if (op == 16 && random.nextInt(3) > 0 || !fits(f, op, height)) {
                continue;
            }
            places.add(code.size());
            heights.add(height);
            code.add(op);
            int b = operand(f, op);
            if (b >= 0) {
                code.add(b);
            }
            height += op == 12 ? 1 - parameters[b] : change(op);
            if (op == 10 || op == 11) {
                jumps.add(code.size());
                jumpHeights.add(height);
            }
        }
        if (height == 0) {
            places.add(code.size());
            heights.add(height);
            code.add(0);
            code.add(random.nextInt(256));
        }
        places.add(code.size());
        heights.add(Math.max(height, 1));
        code.add(16);
        for (int i = 0; i < jumps.size(); i++) {
            code.set(jumps.get(i) - 1, offset(jumps.get(i), jumpHeights.get(i), places, heights));
        }
        return code;
    }

    private int offset(int from, int height, List<Integer> places, List<Integer> heights) {
        List<Integer> good = new ArrayList<>();
        for (int i = 0; i < places.size(); i++) {
            // Ways back are rarer, for most calls are to come to an end.
            if (heights.get(i) == height && (places.get(i) >= from || random.nextInt(3) == 0)) {
                good.add(places.get(i));
            }
        }
        int to = good.isEmpty() ? from : good.get(random.nextInt(good.size()));
        return to - from & 255;
    }

    private boolean fits(int f, int op, int height) {
        if ((op == 1 || op == 2) && parameters[f] + further[f] == 0 || op == 13 && imports == 0) {
            return false;
        }
        if (op >= 3 && op <= 7) {
            return height >= 2;
        }
        if (op == 12) {
            return height >= 2 && height <= 5;
        }
        return change(op) > 0 ? height <= 5 && (op != 8 || height > 0) : height > 0 || op == 10;
    }

    private int change(int op) {
        switch (op) {
            case 0: case 1: case 8: case 14: return 1;
            case 10: case 13: case 16: return 0;
            default: return -1;
        }
    }

    private int operand(int f, int op) {
        switch (op) {
            case 0: return random.nextInt(3) == 0 ? random.nextInt(256) : random.nextInt(3);
            case 1: case 2: return random.nextInt(parameters[f] + further[f]);
            case 10: case 11: return 0;
            case 12: return random.nextInt(parameters.length);
            case 13: return random.nextInt(imports);
            case 14: case 15: return random.nextInt(4);
            default: return -1;
        }
    }
}

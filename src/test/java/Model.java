import java.math.BigInteger;
import java.util.ArrayList;
import java.util.List;
import java.util.Map;
import java.util.TreeMap;

/** The document once more, over the Java library and by nesting, to hold the class against. */
final class Model {
    private static final class Raised extends RuntimeException { }

    private static final class NotTried extends RuntimeException { }

    private static final class Segment {
        int number;
        Segment above;
        long value;
        List<Segment> below = new ArrayList<>();
    }

    private record Cell(int size, BigInteger value) { }

    private record Node(int kind, int a, int b) { }

    private record Act(int kind, long a, long b) { }

    private final int limit;
    private List<Cell> cells = new ArrayList<>();
    private final List<Node> nodes = new ArrayList<>();
    private final List<List<Act>> units = new ArrayList<>();
    private final List<Act> row = new ArrayList<>();
    private final TreeMap<Long, Long> records = new TreeMap<>();
    private final Segment top = new Segment();
    private final Map<Integer, Segment> there = new TreeMap<>();
    private final TreeMap<Long, Long> signs = new TreeMap<>();
    private int made;
    private int steps;
    private int refused;

    Model(long steps) {
        limit = (int) Math.max(1, Math.min(5000, steps));
        for (int i = 0; i <= 8; i++) {
            units.add(new ArrayList<>());
        }
    }

    private int refuse(int answer) {
        refused++;
        return answer;
    }

    private boolean isCell(int number) {
        return number >= 1 && number <= cells.size();
    }

    private boolean isNode(int number) {
        return number >= 1 && number <= nodes.size();
    }

    private static boolean isPlace(long place) {
        return place > 100 && place <= 2480 && place % 100 >= 1 && place % 100 <= 80;
    }

    private static BigInteger cut(int size, BigInteger value) {
        String digits = value.abs().toString();
        BigInteger low = new BigInteger(digits.substring(Math.max(0, digits.length() - size)));
        return value.signum() < 0 ? low.negate() : low;
    }

    int cell(int size, long v) {
        if (size < 1 || size > 18) {
            return refuse(-4);
        }
        if (cells.size() == 60) {
            return refuse(-1);
        }
        cells.add(new Cell(size, cut(size, BigInteger.valueOf(v))));
        return cells.size();
    }

    int node(int kind, int a, int b) {
        boolean needsCellA = kind >= 1 && kind <= 5 || kind >= 7 && kind <= 10 || kind == 12;
        boolean needsCellB = kind >= 1 && kind <= 5 || kind == 10;
        boolean needsNodeB = kind >= 6 && kind <= 8 || kind == 12;
        if (kind < 0 || kind > 12 || needsCellA && !isCell(a) || needsCellB && !isCell(b)
            || kind == 6 && !isNode(a) || needsNodeB && !isNode(b)) {
            return refuse(-2);
        }
        if (kind == 9 && !isPlace(b)) {
            return refuse(-4);
        }
        if (nodes.size() == 200) {
            return refuse(-1);
        }
        nodes.add(new Node(kind, a, b));
        return nodes.size();
    }

    int run(int root) {
        if (!isNode(root)) {
            return refuse(-2);
        }
        List<Cell> before = new ArrayList<>(cells);
        steps = 0;
        try {
            go(root);
            if (row.size() + units.get(0).size() > 1000) {
                throw new Raised();
            }
            doAll(units.get(0));
            return 1;
        } catch (NotTried e) {
            cells = before;
            return 0;
        } catch (Raised e) {
            return 2;
        } finally {
            units.get(0).clear();
        }
    }

    private void step() {
        if (steps == limit) {
            throw new NotTried();
        }
        steps++;
    }

    private BigInteger value(int cell) {
        return cells.get(cell - 1).value;
    }

    private void set(int cell, BigInteger value) {
        int size = cells.get(cell - 1).size;
        if (value.abs().toString().length() > size) {
            throw new Raised();
        }
        cells.set(cell - 1, new Cell(size, value));
    }

    private void walked(int kind, long a, long b) {
        if (units.get(0).size() == 1000) {
            throw new Raised();
        }
        units.get(0).add(new Act(kind, a, b));
    }

    private void go(int number) {
        step();
        Node node = nodes.get(number - 1);
        int a = node.a;
        int b = node.b;
        switch (node.kind) {
            case 1 -> set(b, cut(cells.get(b - 1).size, value(a)));
            case 2 -> set(b, value(b).add(value(a)));
            case 3 -> set(b, value(b).subtract(value(a)));
            case 4 -> set(b, value(b).multiply(value(a)));
            case 5 -> {
                if (value(a).signum() == 0) {
                    throw new Raised();
                }
                set(b, value(b).divide(value(a)));
            }
            case 6 -> {
                go(a);
                go(b);
            }
            case 7 -> {
                if (value(a).signum() != 0) {
                    go(b);
                }
            }
            case 8 -> {
                while (value(a).signum() != 0) {
                    step();
                    go(b);
                }
            }
            case 9 -> {
                String text = (value(a).signum() < 0 ? "-" : "") + digits(a);
                for (int i = 0; i < text.length() && b % 100 + i <= 80; i++) {
                    walked(4, b + i, text.charAt(i));
                }
            }
            case 10 -> {
                long key = value(a).longValueExact();
                if (key < 0 || key > 999999) {
                    throw new Raised();
                }
                walked(0, key, value(b).longValueExact());
            }
            case 11 -> throw new Raised();
            case 12 -> {
                if (value(a).signum() < 0) {
                    go(b);
                }
            }
            default -> { }
        }
    }

    private String digits(int cell) {
        String digits = value(cell).abs().toString();
        return "0".repeat(cells.get(cell - 1).size - digits.length()) + digits;
    }

    /** -1 where the class must throw. */
    int at(int cell, int i) {
        if (!isCell(cell) || i < 0 || i >= cells.get(cell - 1).size) {
            return -1;
        }
        String digits = digits(cell);
        boolean below = value(cell).signum() < 0 && i == digits.length() - 1;
        return digits.charAt(i) + (below ? 64 : 0);
    }

    long number(int cell) {
        return isCell(cell) ? value(cell).longValueExact() : 0;
    }

    double real(int cell) {
        return isCell(cell) ? value(cell).doubleValue() / 100.0 : 0.0;
    }

    int record(int file, int i, int what) {
        if (file < 0 || file > 3 || what < 0 || what > 2) {
            return -1;
        }
        int at = 0;
        for (Map.Entry<Long, Long> entry : records.entrySet()) {
            if (entry.getKey() / 1000000 == file && at++ == i) {
                return what == 0 ? (int) (entry.getKey() % 1000000)
                    : what == 1 ? entry.getValue().intValue() : (int) (entry.getValue() >>> 32);
            }
        }
        return -1;
    }

    int act(int unit, int kind, long a, long b) {
        if (unit < 1 || unit > 8 || kind < 0 || kind > 4) {
            return refuse(-2);
        }
        boolean right = kind <= 1 ? a >= 0 && a <= 3999999
            : kind <= 3 ? a >= kind - 2 && a <= 100
            : isPlace(a) && b >= 32 && b <= 126;
        if (!right) {
            return refuse(-4);
        }
        if (units.get(unit).size() == 50) {
            return refuse(-1);
        }
        units.get(unit).add(new Act(kind, a, b));
        return units.get(unit).size();
    }

    int commit(int unit) {
        if (unit < 1 || unit > 8) {
            return refuse(-2);
        }
        List<Act> acts = units.get(unit);
        int size = acts.size();
        if (row.size() + size > 1000) {
            return refuse(-1);
        }
        doAll(acts);
        acts.clear();
        return size;
    }

    private void doAll(List<Act> acts) {
        for (Act act : acts) {
            row.add(act);
            switch (act.kind) {
                case 0 -> records.put(act.a, act.b);
                case 1 -> records.remove(act.a);
                case 2 -> insert(act);
                case 3 -> delete((int) act.a);
                default -> signs.put(act.a, act.b);
            }
        }
    }

    private void insert(Act act) {
        Segment above = act.a == 0 ? top : there.get((int) act.a);
        if (above == null || made == 100) {
            return;
        }
        Segment segment = new Segment();
        segment.number = ++made;
        segment.above = above;
        segment.value = act.b;
        above.below.add(segment);
        there.put(made, segment);
    }

    private void delete(int number) {
        Segment segment = there.get(number);
        if (segment != null) {
            segment.above.below.remove(segment);
            forget(segment);
        }
    }

    private void forget(Segment segment) {
        there.remove(segment.number);
        for (Segment below : segment.below) {
            forget(below);
        }
    }

    int second() {
        return records.size() + there.size() + signs.size();
    }

    int segment(int i, int what) {
        List<int[]> rows = new ArrayList<>();
        layOut(top, -1, rows);
        return i < 0 || i >= rows.size() - 1 || what < 0 || what > 4 ? -1 : rows.get(i + 1)[what];
    }

    private static void layOut(Segment segment, int depth, List<int[]> rows) {
        rows.add(new int[] {segment.number, segment.above == null ? 0 : segment.above.number, depth,
            (int) segment.value, (int) (segment.value >>> 32)});
        for (Segment below : segment.below) {
            layOut(below, depth + 1, rows);
        }
    }

    int screen(int line, int column) {
        if (line < 1 || line > 24 || column < 1 || column > 80) {
            return -1;
        }
        return signs.getOrDefault(line * 100L + column, 32L).intValue();
    }

    int refused() {
        return refused;
    }

    int count(int what) {
        int[] counts = {cells.size(), nodes.size(), row.size(), records.size(), there.size(), steps};
        return what < 0 || what >= counts.length ? -1 : counts[what];
    }
}

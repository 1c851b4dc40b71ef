import java.util.Random;

/** Many runs of 512 calls, each call held against the model; the seeds are fixed. */
public final class ModelTest {
    private static final Due due = new Due();
    private static final int[] WILD = {0, -1, 1, 2, 8, 9, 50, 60, 61, 80, 81, 100, 101, 181, 200, 201,
        2480, 2481, 999999, 1000000, Integer.MIN_VALUE, Integer.MAX_VALUE};
    private static final long[] WILD_LONGS = {Long.MIN_VALUE, Long.MAX_VALUE, 0, -1, 1,
        999999999999999999L, -999999999999999999L, 1000000000000000000L, 4000000, 3999999, 1L << 32};

    private final Random random;
    private final PlainCobol x;
    private final Model model;
    private final int mood;
    private final String name;

    private ModelTest(int seed) {
        random = new Random(seed);
        mood = seed % 6;
        long[] steps = {5000, 1 + random.nextInt(40), 300, 5000, random.nextLong(), 1000};
        x = new PlainCobol(steps[mood]);
        model = new Model(steps[mood]);
        name = "seed " + seed + ": ";
    }

    public static void main(String[] args) {
        for (int seed = 0; seed < 4000 && !due.hasWrong(); seed++) {
            ModelTest test = new ModelTest(seed);
            for (int call = 0; call < 512; call++) {
                test.call();
            }
        }
        due.finish();
    }

    private int pick(int bound) {
        return random.nextInt(bound);
    }

    private boolean isWild() {
        return mood == 4 ? pick(4) == 0 : pick(60) == 0;
    }

    private int some(int low, int high) {
        return isWild() ? WILD[pick(WILD.length)] : low + pick(Math.max(1, high - low + 1));
    }

    private long someLong() {
        switch (pick(4)) {
            case 0: return WILD_LONGS[pick(WILD_LONGS.length)];
            case 1: return random.nextLong();
            default: return pick(25) - 8;
        }
    }

    private int someCell() {
        return some(1, Math.min(model.count(0), 8));
    }

    private int someNode() {
        int last = model.count(1);
        return some(Math.max(1, last - (pick(3) == 0 ? 200 : 6)), last);
    }

    private int somePlace() {
        return 100 * some(1, 24) + some(pick(2) == 0 ? 70 : 1, 80);
    }

    private void check(String call, long got, long want) {
        due.is(name + call, got, want);
    }

    private void call() {
        int kind = pick(100);
        if (kind < 8) {
            callCell();
        } else if (kind < 30) {
            callNode();
        } else if (kind < 45) {
            int root = someNode();
            check("run(" + root + ")", x.run(root), model.run(root));
        } else if (kind < 65) {
            callAct();
        } else if (kind < 70) {
            int unit = some(1, mood == 5 ? 2 : 8);
            check("commit(" + unit + ")", x.commit(unit), model.commit(unit));
        } else {
            look();
        }
    }

    private void callCell() {
        int size = mood == 3 ? some(3, 5) : some(1, 18);
        long value = mood == 3 ? 10 + pick(300) : someLong();
        check("cell(" + size + ", " + value + ")", x.cell(size, value), model.cell(size, value));
    }

    private void callNode() {
        int kind = some(0, 12);
        if (kind == 11 && pick(4) != 0) {
            kind = 10;
        }
        boolean rows = kind == 6;
        int a = rows ? someNode() : someCell();
        int b = rows || kind == 7 || kind == 8 || kind == 12 ? someNode()
            : kind == 9 ? somePlace() : someCell();
        check("node(" + kind + ", " + a + ", " + b + ")", x.node(kind, a, b), model.node(kind, a, b));
    }

    private void callAct() {
        int unit = some(1, mood == 5 ? 2 : 8);
        int kind = mood == 5 ? some(2, 3) : some(0, 4);
        if (kind == 3 && pick(5) != 0) {
            kind = 2;
        }
        long a = kind <= 1 ? 1000000L * some(0, 3) + some(0, 30)
            : kind <= 3 ? some(kind - 2, Math.max(5, model.count(4)))
            : somePlace();
        long b = kind == 4 ? some(32, 126) : someLong();
        if (isWild()) {
            a = someLong();
        }
        check("act(" + unit + ", " + kind + ", " + a + ", " + b + ")",
            x.act(unit, kind, a, b), model.act(unit, kind, a, b));
    }

    /** One call alone, so that a run has 512 of them. */
    private void look() {
        int cell = someCell();
        int what = some(0, 5);
        switch (pick(9)) {
            case 0 -> {
                int i = some(0, 18);
                due.at(x, cell, i, model.at(cell, i));
            }
            case 1 -> check("number(" + cell + ")", x.number(cell), model.number(cell));
            case 2 -> due.isReal(name + "real(" + cell + ")", x.real(cell), model.real(cell));
            case 3 -> lookAtRecord(some(0, 3), some(0, Math.max(4, model.count(3))), what / 2);
            case 4 -> lookAtSegment(some(0, model.count(4)), what);
            case 5 -> lookAtScreen(some(1, 24), some(1, 80));
            case 6 -> check("second()", x.second(), model.second());
            case 7 -> check("refused()", x.refused(), model.refused());
            default -> check("count(" + what + ")", x.count(what), model.count(what));
        }
    }

    private void lookAtRecord(int file, int i, int what) {
        check("record(" + file + ", " + i + ", " + what + ")",
            x.record(file, i, what), model.record(file, i, what));
    }

    private void lookAtSegment(int i, int what) {
        check("segment(" + i + ", " + what + ")", x.segment(i, what), model.segment(i, what));
    }

    private void lookAtScreen(int row, int column) {
        check("screen(" + row + ", " + column + ")", x.screen(row, column), model.screen(row, column));
    }
}

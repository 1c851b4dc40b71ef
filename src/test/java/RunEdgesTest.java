/** The sentences on running and on unit 0, and promises 1 and 4: the boundaries that each one names. */
public final class RunEdgesTest {
    private static final Due due = new Due();

    public static void main(String[] args) {
        nearestSteps();
        nothingElse();
        eachNodeIsAStep();
        oneMoreForEachRound();
        notTried();
        notTriedWithinEachKind();
        raised();
        ended();
        rowHasNoRoom();
        thousandActs();
        signsOneByOne();
        outcomes();
        stepsOfTheLatestRun();
        due.finish();
    }

    private static void nearestSteps() {
        due.sentence("Promise 1", "STEPS is steps, 1 .. 5000 (the nearest of these).");
        long[] given = {Long.MIN_VALUE, Integer.MIN_VALUE, -1, 0, 1, 2, 4999, 5000, 5001,
            Integer.MAX_VALUE, 1L << 32, (1L << 32) + 7, Long.MAX_VALUE};
        int[] kept = {1, 1, 1, 1, 1, 2, 4999, 5000, 5000, 5000, 5000, 5000, 5000};
        for (int i = 0; i < given.length; i++) {
            PlainCobol x = new PlainCobol(given[i]);
            x.cell(1, 1);
            x.node(0, 0, 0);
            x.node(8, 1, 1);
            due.runs(x, 2, 0, kept[i]);
            due.runs(x, 1, 1, 1);
        }
        // 1249 rounds of four steps and four nodes more are 5000 steps.
        int[] steps = {4999, 5000, 5001};
        int[] outcomes = {0, 1, 1};
        for (int i = 0; i < steps.length; i++) {
            PlainCobol x = storeless(steps[i], 1249);
            due.runs(x, 7, outcomes[i], i == 0 ? 4999 : 5000);
        }
        due.runs(storeless(5001, 1250), 7, 0, 5000);
    }

    /** Node 7 has a loop of four steps a round, within an IF and behind a node that does nothing. */
    private static PlainCobol storeless(long steps, int rounds) {
        PlainCobol x = new PlainCobol(steps);
        x.cell(4, rounds);
        x.cell(1, 1);
        x.node(3, 2, 1);
        x.node(0, 0, 0);
        x.node(6, 2, 1);
        x.node(8, 1, 3);
        x.node(0, 0, 0);
        x.node(6, 5, 4);
        x.node(7, 2, 6);
        return x;
    }

    private static void nothingElse() {
        due.sentence("Promise 1", "Nothing else.");
        long[] steps = {Long.MIN_VALUE, 0, 1, 5000, Long.MAX_VALUE};
        for (long given : steps) {
            PlainCobol x = new PlainCobol(given);
            for (int what = 0; what <= 5; what++) {
                due.is("count(" + what + ")", x.count(what), 0);
            }
            due.is("refused", x.refused(), 0);
            due.is("second", x.second(), 0);
            for (int i = 0; i <= 61; i++) {
                due.is("number(" + i + ")", x.number(i), 0);
            }
            for (int i = 0; i <= 3; i++) {
                due.is("record", x.record(i, 0, 0), PlainCobol.NONE);
                due.is("segment", x.segment(0, i), PlainCobol.NONE);
            }
            for (int i = 1; i <= 24; i++) {
                due.is("screen", x.screen(i, 1), 32);
                due.is("screen", x.screen(i, 80), 32);
            }
            for (int unit = 1; unit <= 8; unit++) {
                due.is("commit", x.commit(unit), 0);
            }
        }
    }

    private static void eachNodeIsAStep() {
        due.sentence("Terms", "RUNNING a node: each node that is begun is a step, also one within others");
        PlainCobol x = new PlainCobol(99);
        x.cell(1, 1);
        x.cell(1, 0);
        x.cell(1, -1);
        x.cell(1, 0);
        int[] bs = {0, 4, 4, 4, 4, 4, 1, 1, 1, 101, 4, 0, 1};
        int[] steps = {1, 1, 1, 1, 1, 1, 3, 1, 1, 1, 1, 1, 1};
        x.node(0, 0, 0);
        for (int kind = 0; kind <= 12; kind++) {
            // A is cell 2, which is 0, so neither an IF nor a LOOP begins its node.
            int a = kind == 5 || kind == 6 ? 1 : 2;
            int node = x.node(kind, a, bs[kind]);
            due.runs(x, node, kind == 11 ? 2 : 1, steps[kind]);
        }
        int nothing = x.node(0, 0, 0);
        int inIf = x.node(7, 3, nothing);
        int inBelow = x.node(12, 3, inIf);
        int inRow = x.node(6, inBelow, inBelow);
        due.runs(x, inIf, 1, 2);
        due.runs(x, inBelow, 1, 3);
        due.runs(x, inRow, 1, 7);
        due.runs(x, x.node(6, inRow, inRow), 1, 15);
        for (int kind = 6; kind <= 8; kind++) {
            nestedTwoHundredDeep(kind);
        }
    }

    /** All 200 nodes, each within the next one; a ROW and a LOOP leave something waiting at every level. */
    private static void nestedTwoHundredDeep(int kind) {
        PlainCobol x = new PlainCobol(5000);
        x.cell(1, 1);
        x.cell(1, 0);
        x.cell(3, 0);
        if (kind == 6) {
            x.node(2, 1, 3);
        } else {
            x.node(1, 2, 1);
        }
        for (int node = 2; node <= 200; node++) {
            x.node(kind, kind == 6 ? node - 1 : 1, kind == 6 ? 1 : node - 1);
        }
        due.runs(x, 200, 1, kind == 7 ? 200 : 399);
        due.is("a row's parts are done", x.number(3), kind == 6 ? 200 : 0);
        due.is("the innermost one is done", x.number(1), kind == 6 ? 1 : 0);
    }

    private static PlainCobol countdown(long steps, int rounds) {
        PlainCobol x = new PlainCobol(steps);
        x.cell(2, rounds);
        x.cell(1, 1);
        x.node(3, 2, 1);
        x.node(8, 1, 1);
        return x;
    }

    private static void oneMoreForEachRound() {
        due.sentence("Terms", "a LOOP has one more for each time round, ahead of its node.");
        for (int rounds = 0; rounds <= 4; rounds++) {
            due.runs(countdown(99, rounds), 2, 1, 1 + 2 * rounds);
        }
        // Its node raises at once: the loop, the round and the node are begun by then.
        PlainCobol x = new PlainCobol(3);
        x.cell(1, 1);
        x.node(11, 0, 0);
        x.node(8, 1, 1);
        due.runs(x, 2, 2, 3);
        PlainCobol y = new PlainCobol(2);
        y.cell(1, 1);
        y.node(11, 0, 0);
        y.node(8, 1, 1);
        due.runs(y, 2, 0, 2);
        // A loop of no round within a loop: outer loop, round, row, inner loop, node.
        PlainCobol z = new PlainCobol(99);
        z.cell(1, 1);
        z.cell(1, 0);
        z.cell(1, 1);
        z.node(3, 3, 1);
        z.node(8, 2, 1);
        z.node(6, 2, 1);
        z.node(8, 1, 3);
        due.runs(z, 4, 1, 5);
    }

    private static void notTried() {
        due.sentence("Terms", "If there would be more steps than STEPS, it is NOT TRIED: "
            + "all cells are as before, the acts of unit 0 go.");
        PlainCobol x = new PlainCobol(9);
        for (int i = 1; i <= 60; i++) {
            x.cell(2, i - 30);
        }
        // Each of the four changes a cell or brings an act; the row of five has nine steps.
        x.node(2, 31, 1);
        x.node(1, 1, 60);
        x.node(10, 31, 1);
        x.node(9, 1, 101);
        int root = x.node(0, 0, 0);
        for (int node = 1; node <= 4; node++) {
            root = x.node(6, node, root);
        }
        int more = x.node(6, root, root);
        due.runs(x, more, 0, 9);
        for (int i = 1; i <= 60; i++) {
            due.is("cell " + i + " as before", x.number(i), i - 30);
        }
        due.is("no act", x.count(2), 0);
        due.is("no record", x.count(3), 0);
        due.is("no sign", x.screen(1, 1), 32);
        due.is("second", x.second(), 0);
        due.runs(x, root, 1, 9);
        due.is("cell 1", x.number(1), -28);
        // The row goes backwards: three signs of -29, the record, then both cells.
        due.is("cell 60", x.number(60), -29);
        due.is("the acts of this run alone", x.count(2), 4);
        due.runs(x, more, 0, 9);
        due.is("cell 1 as before the latest run", x.number(1), -28);
    }

    private static void isBounded(PlainCobol exact, PlainCobol less, int root, int steps) {
        due.runs(exact, root, 1, steps);
        due.runs(less, root, 0, steps - 1);
    }

    private static PlainCobol nested(long steps, int kind) {
        PlainCobol x = new PlainCobol(steps);
        x.cell(1, -1);
        x.cell(1, 1);
        x.node(2, 2, 1);
        x.node(kind, 1, 1);
        return x;
    }

    private static void notTriedWithinEachKind() {
        due.sentence("Terms", "If there would be more steps than STEPS, it is NOT TRIED");
        isBounded(nested(3, 6), nested(2, 6), 2, 3);
        isBounded(nested(2, 7), nested(1, 7), 2, 2);
        isBounded(nested(3, 8), nested(2, 8), 2, 3);
        isBounded(nested(2, 12), nested(1, 12), 2, 2);
        due.runs(nested(1, 8), 2, 0, 1);
        due.runs(nested(1, 6), 2, 0, 1);
        isBounded(countdown(9, 4), countdown(8, 4), 2, 9);
        due.runs(countdown(7, 4), 2, 0, 7);
        PlainCobol x = countdown(8, 4);
        due.runs(x, 2, 0, 8);
        due.is("all rounds are taken back", x.number(1), 4);
        // What would raise behind the last step is not tried, what raises by it has raised.
        PlainCobol y = new PlainCobol(3);
        y.node(11, 0, 0);
        y.node(0, 0, 0);
        y.node(6, 2, 1);
        y.node(6, 2, 3);
        due.runs(y, 3, 2, 3);
        due.runs(y, 4, 0, 3);
    }

    private static void raised() {
        due.sentence("Terms", "If it raises, cells stay as they are then, the acts of unit 0 go.");
        PlainCobol x = new PlainCobol(99);
        x.cell(2, 40);
        x.cell(2, 0);
        x.node(10, 1, 1);
        x.node(9, 1, 101);
        x.node(6, 1, 2);
        x.node(2, 1, 2);
        x.node(6, 3, 4);
        x.cell(1, 1);
        x.node(8, 3, 5);
        // Each round has the row, the row of both acts, both, and the sum: 40, 80, then 120 raises.
        due.runs(x, 6, 2, 1 + 3 * 6);
        due.is("80 stays", x.number(2), 80);
        due.is("no act", x.count(2), 0);
        due.is("no record", x.count(3), 0);
        due.is("no sign", x.screen(1, 1), 32);
        due.is("second", x.second(), 0);
        due.runs(x, 3, 1, 3);
        due.is("the acts of this run alone", x.count(2), 3);
    }

    private static void ended() {
        due.sentence("Terms", "Else it ENDED, and unit 0 is committed");
        PlainCobol x = new PlainCobol(9);
        x.cell(1, 5);
        x.node(0, 0, 0);
        x.node(10, 1, 1);
        x.node(9, 1, 101);
        due.runs(x, 1, 1, 1);
        due.is("no act", x.count(2), 0);
        due.runs(x, 2, 1, 1);
        due.is("one act", x.count(2), 1);
        due.is("it is done", x.record(0, 0, 0), 5);
        due.runs(x, 3, 1, 1);
        due.is("two acts", x.count(2), 2);
        due.is("it is done", x.screen(1, 1), 53);
        x.act(1, 1, 5, 0);
        due.runs(x, 2, 1, 1);
        due.is("unit 0 alone", x.count(2), 3);
        due.is("unit 1 waits", x.count(3), 1);
    }

    /** A cell changes, then three acts come; it has five steps. */
    private static int threeActs(PlainCobol x) {
        int cell = x.cell(2, 12);
        int nodes = x.count(1);
        x.node(2, 2, cell);
        x.node(9, cell, 101);
        x.node(10, cell, cell);
        x.node(6, nodes + 1, nodes + 2);
        return x.node(6, nodes + 4, nodes + 3);
    }

    private static void rowHasNoRoom() {
        due.sentence("Terms", "(if the row of acts has no room for all of them, it raised).");
        PlainCobol fits = Made.filled(997);
        due.runs(fits, threeActs(fits), 1, 5);
        due.is("the row is full", fits.count(2), 1000);
        due.is("its sign", fits.screen(1, 1), 49);
        for (int acts = 998; acts <= 1000; acts++) {
            PlainCobol x = Made.filled(acts);
            due.runs(x, threeActs(x), 2, 5);
            due.is("cells stay", x.number(4), 13);
            due.is("none of them stands in the row", x.count(2), acts);
            due.is("no sign", x.screen(1, 1), 32);
            due.is("the record is the one from before", x.record(0, 13, 1), -7);
            due.is("second", x.second(), acts);
            due.is("not refused", x.refused(), 0);
            due.is("a run without acts ends", x.run(1), 1);
        }
    }

    private static void thousandActs() {
        due.sentence("Terms", "unit 0 1000 (one more raises;");
        int[] rounds = {999, 1000, 1001};
        int[] outcomes = {1, 1, 2};
        int[] steps = {3997, 4001, 4005};
        for (int i = 0; i < rounds.length; i++) {
            PlainCobol x = Made.filler(5000, rounds[i]);
            due.runs(x, 4, outcomes[i], steps[i]);
            due.is("acts", x.count(2), outcomes[i] == 1 ? rounds[i] : 0);
            due.is("records", x.count(3), outcomes[i] == 1 ? rounds[i] : 0);
            due.is("second", x.second(), outcomes[i] == 1 ? rounds[i] : 0);
        }
        PlainCobol y = Made.filler(5000, 1003);
        due.runs(y, 4, 2, 4005);
        due.is("cells are as at the 1001st", y.number(1), 2);
        // The 1001st act would come behind the last step.
        due.runs(Made.filler(4004, 1001), 4, 0, 4004);
        due.runs(Made.filler(4005, 1001), 4, 2, 4005);
    }

    private static void signsOneByOne() {
        due.sentence("Terms", "signs of a DISPLAY one by one).");
        // Cell 3 has eleven signs; from column 76 on, six of them are lost.
        int[] acts = {989, 990, 995, 996};
        int[] places = {101, 101, 176, 176};
        int[] outcomes = {1, 2, 1, 2};
        int[] total = {1000, 0, 1000, 0};
        for (int i = 0; i < acts.length; i++) {
            PlainCobol x = Made.filler(5000, acts[i]);
            x.node(9, 3, places[i]);
            x.node(6, 4, 5);
            due.runs(x, 6, outcomes[i], 4 * acts[i] + 3);
            due.is("acts", x.count(2), total[i]);
            due.is("none of its signs alone", x.screen(1, places[i] - 100), outcomes[i] == 1 ? 45 : 32);
            due.is("second", x.second(), total[i]);
        }
        PlainCobol y = Made.filler(5000, 1000);
        y.cell(1, 5);
        y.node(9, 4, 180);
        y.node(6, 4, 5);
        due.runs(y, 6, 2, 4003);
    }

    private static void outcomes() {
        due.sentence("Promise 4", "A node is run: 1 it ended, 2 it raised, 0 it is not tried; -2.");
        PlainCobol x = new PlainCobol(2);
        due.is("no node yet", x.run(1), -2);
        x.node(0, 0, 0);
        x.node(11, 0, 0);
        x.node(6, 1, 1);
        due.is("ended", x.run(1), 1);
        due.is("raised", x.run(2), 2);
        due.is("not tried", x.run(3), 0);
        int[] wrong = {0, 4, -1, -3, 200, 201, Integer.MIN_VALUE, Integer.MAX_VALUE};
        for (int root : wrong) {
            due.is("run(" + root + ")", x.run(root), -2);
        }
        due.is("refused", x.refused(), wrong.length + 1);
    }

    private static void stepsOfTheLatestRun() {
        due.sentence("Promise 15", "5 steps of the latest run (with the node that raised; STEPS, "
            + "if it was not tried)");
        PlainCobol x = new PlainCobol(4);
        due.is("no run yet", x.count(5), 0);
        x.node(0, 0, 0);
        x.node(11, 0, 0);
        x.node(6, 1, 2);
        x.node(6, 3, 1);
        x.node(6, 1, 1);
        x.node(6, 5, 1);
        due.runs(x, 1, 1, 1);
        due.runs(x, 2, 2, 1);
        due.runs(x, 3, 2, 3);
        due.runs(x, 4, 2, 4);
        due.runs(x, 6, 0, 4);
        due.runs(x, 5, 1, 3);
        due.is("a run that is refused", x.run(7), -2);
        due.is("is no run", x.count(5), 3);
        x.commit(1);
        due.is("nor is a commit", x.count(5), 3);
    }
}

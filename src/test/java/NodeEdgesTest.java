/** The sentences on nodes and places, and promise 3: the boundaries that each one names. */
public final class NodeEdgesTest {
    private static final Due due = new Due();
    private static final int[] OF_CELLS = {1, 2, 3, 4, 5, 10};
    private static final int[] OF_CELL_AND_NODE = {7, 8, 12};
    private static final int LOW = Integer.MIN_VALUE;
    private static final int HIGH = Integer.MAX_VALUE;

    public static void main(String[] args) {
        numberedFromOne();
        twoNumbers();
        places();
        newNode();
        noSuchKind();
        noCell();
        noNode();
        nodesAheadOfIt();
        placeIsNone();
        noRoom();
        due.finish();
    }

    private static PlainCobol full() {
        PlainCobol x = new PlainCobol(9);
        x.cell(3, 5);
        for (int i = 1; i <= 200; i++) {
            due.is("node " + i, x.node(i == 200 ? 11 : 0, 0, 0), i);
        }
        return x;
    }

    private static void numberedFromOne() {
        due.sentence("Terms", "NODES are numbered from 1 on (at most 200)");
        PlainCobol x = full();
        due.is("201st", x.node(0, 0, 0), PlainCobol.NONE);
        due.is("nodes", x.count(1), 200);
        due.is("node 0 is none", x.run(0), -2);
        due.is("node 1", x.run(1), 1);
        due.is("node 199", x.run(199), 1);
        due.is("node 200", x.run(200), 2);
        due.is("node 201 is none", x.run(201), -2);
    }

    private static void twoNumbers() {
        due.sentence("Terms", "each of a KIND, with two numbers A and B.");
        PlainCobol x = new PlainCobol(9);
        x.cell(3, 100);
        x.cell(3, 7);
        x.node(3, 1, 2);
        x.node(3, 2, 1);
        x.node(2, 2, 1);
        due.is("B - A", x.run(2), 1);
        due.is("100 - 7", x.number(1), 93);
        due.is("the other way round", x.run(1), 1);
        due.is("7 - 93", x.number(2), -86);
        due.is("another kind", x.run(3), 1);
        due.is("93 - 86", x.number(1), 7);
    }

    private static void places() {
        due.sentence("Terms", "A PLACE is 100 * row + column, rows 1 .. 24, columns 1 .. 80.");
        PlainCobol x = new PlainCobol(9);
        x.cell(1, 5);
        int made = 0;
        int[] columns = {0, 1, 80, 81};
        for (int row = 0; row <= 25; row++) {
            for (int column : columns) {
                boolean isOne = row >= 1 && row <= 24 && column >= 1 && column <= 80;
                int place = 100 * row + column;
                made += isOne ? 1 : 0;
                due.is("display at " + place, x.node(9, 1, place), isOne ? made : -4);
                due.is("sign at " + place, x.act(1, 4, place, 65), isOne ? made : -4);
                due.is("screen at " + place, x.screen(row, column), isOne ? 32 : PlainCobol.NONE);
            }
        }
        due.is("two of each row", made, 48);
        due.is("commit", x.commit(1), 48);
        due.is("each is a place of its own", x.second(), 48);
    }

    private static void newNode() {
        due.sentence("Promise 3", "A new node: its number");
        PlainCobol x = new PlainCobol(9);
        x.cell(3, 5);
        due.is("the first", x.node(0, 0, 0), 1);
        int[] bs = {0, 1, 1, 1, 1, 1, 1, 1, 1, 101, 1, 0, 1};
        for (int kind = 0; kind <= 12; kind++) {
            due.is("one of kind " + kind, x.node(kind, 1, bs[kind]), kind + 2);
        }
        due.is("nodes", x.count(1), 14);
    }

    private static void noSuchKind() {
        due.sentence("Promise 3", "-2 no such kind");
        PlainCobol x = new PlainCobol(9);
        x.cell(3, 5);
        x.node(0, 0, 0);
        int[] wrong = {-1, 13, -12, 256, LOW, HIGH};
        for (int kind : wrong) {
            due.is("kind " + kind, x.node(kind, 1, 1), -2);
        }
        due.is("nodes", x.count(1), 1);
    }

    private static void noCell() {
        due.sentence("Promise 3", "or A or B is no cell or node that it needs");
        PlainCobol x = new PlainCobol(9);
        x.cell(3, 5);
        x.node(0, 0, 0);
        x.node(0, 0, 0);
        // 2 is a node and no cell, so a mix-up of both is seen.
        int[] wrong = {2, 0, -1, 60, 61, LOW, HIGH};
        for (int cell : wrong) {
            for (int kind : OF_CELLS) {
                due.is("kind " + kind + ", A " + cell, x.node(kind, cell, 1), -2);
                due.is("kind " + kind + ", B " + cell, x.node(kind, 1, cell), -2);
            }
            for (int kind : OF_CELL_AND_NODE) {
                due.is("kind " + kind + ", A " + cell, x.node(kind, cell, 1), -2);
            }
            due.is("kind 9, A " + cell, x.node(9, cell, 101), -2);
        }
        due.is("nodes", x.count(1), 2);
        for (int kind : OF_CELL_AND_NODE) {
            due.holds("B is a node, no cell", x.node(kind, 1, 2) > 0);
        }
        due.holds("A and B are nodes, no cells", x.node(6, 2, 2) > 0);
    }

    private static void noNode() {
        due.sentence("Promise 3", "or A or B is no cell or node that it needs");
        PlainCobol x = new PlainCobol(9);
        x.cell(3, 5);
        x.cell(3, 5);
        x.node(0, 0, 0);
        // 2 is a cell and no node.
        int[] wrong = {2, 0, -1, 200, 201, LOW, HIGH};
        for (int node : wrong) {
            due.is("kind 6, A " + node, x.node(6, node, 1), -2);
            due.is("kind 6, B " + node, x.node(6, 1, node), -2);
            for (int kind : OF_CELL_AND_NODE) {
                due.is("kind " + kind + ", B " + node, x.node(kind, 1, node), -2);
            }
        }
        due.is("nodes", x.count(1), 1);
        for (int kind : OF_CELL_AND_NODE) {
            due.holds("A is a cell, no node", x.node(kind, 2, 1) > 0);
        }
        due.holds("A and B are cells, no nodes", x.node(1, 2, 2) > 0);
    }

    private static void nodesAheadOfIt() {
        due.sentence("Promise 3", "(nodes are those ahead of it)");
        PlainCobol x = new PlainCobol(9);
        x.cell(3, 5);
        due.is("none is ahead of the first", x.node(6, 1, 1), -2);
        due.is("none is ahead of the first", x.node(8, 1, 1), -2);
        x.node(0, 0, 0);
        due.is("itself as A", x.node(6, 2, 1), -2);
        due.is("itself as B", x.node(6, 1, 2), -2);
        due.is("the one ahead", x.node(6, 1, 1), 2);
        for (int kind : OF_CELL_AND_NODE) {
            int made = x.count(1);
            due.is("itself, kind " + kind, x.node(kind, 1, made + 1), -2);
            due.is("the one ahead, kind " + kind, x.node(kind, 1, made), made + 1);
            due.is("the first, kind " + kind, x.node(kind, 1, 1), made + 2);
        }
    }

    private static void placeIsNone() {
        due.sentence("Promise 3", "-4 the place of a DISPLAY is none");
        PlainCobol x = new PlainCobol(9);
        x.cell(3, 5);
        int[] wrong = {100, 181, 200, 281, 2400, 2481, 2501, 1, 80, 0, -1, -101, -2480, 99, LOW, HIGH,
            LOW + 101, 10101};
        for (int place : wrong) {
            due.is("place " + place, x.node(9, 1, place), -4);
        }
        due.is("nodes", x.count(1), 0);
        int[] right = {101, 180, 2401, 2480};
        for (int i = 0; i < right.length; i++) {
            due.is("place " + right[i], x.node(9, 1, right[i]), i + 1);
        }
    }

    private static void noRoom() {
        due.sentence("Promise 3", "NONE.");
        PlainCobol x = full();
        int[] bs = {0, 1, 1, 1, 1, 1, 200, 200, 200, 2480, 1, 0, 200};
        for (int kind = 0; kind <= 12; kind++) {
            due.is("201st node, kind " + kind, x.node(kind, 1, bs[kind]), PlainCobol.NONE);
        }
        due.is("nodes", x.count(1), 200);
    }
}

/** Promise 3: node. */
public final class NodeTest {
    private static final Due due = new Due();

    public static void main(String[] args) {
        kinds();
        parts();
        places();
        twoHundred();
        due.finish();
    }

    private static void kinds() {
        PlainCobol x = new PlainCobol(10);
        due.is("NOTHING looks at nothing", x.node(0, -5, 999), 1);
        due.is("RAISE looks at nothing", x.node(11, Integer.MIN_VALUE, Integer.MAX_VALUE), 2);
        x.cell(3, 1);
        int[] wrong = {-1, 13, 14, Integer.MIN_VALUE, Integer.MAX_VALUE};
        for (int kind : wrong) {
            due.is("kind " + kind, x.node(kind, 1, 1), -2);
        }
        due.is("refused", x.refused(), wrong.length);
        due.is("nodes", x.count(1), 2);
    }

    private static void parts() {
        int[] ofCells = {1, 2, 3, 4, 5, 10};
        int[] ofBoth = {7, 8, 12};
        PlainCobol x = new PlainCobol(10);
        x.cell(3, 1);
        x.cell(3, 1);
        int made = 0;
        for (int kind : ofCells) {
            due.is("cells 0, 1", x.node(kind, 0, 1), -2);
            due.is("cells 1, 0", x.node(kind, 1, 0), -2);
            due.is("cells 3, 1", x.node(kind, 3, 1), -2);
            due.is("cells 1, 3", x.node(kind, 1, 3), -2);
            due.is("cells 1, -1", x.node(kind, 1, -1), -2);
            due.is("cells 1, 2", x.node(kind, 1, 2), ++made);
        }
        for (int kind : ofBoth) {
            due.is("no cell", x.node(kind, 3, 1), -2);
            due.is("no cell", x.node(kind, 0, 1), -2);
            due.is("no node", x.node(kind, 1, 0), -2);
            due.is("itself", x.node(kind, 1, made + 1), -2);
            due.is("the latest", x.node(kind, 1, made), ++made);
        }
        due.is("row of itself", x.node(6, 1, made + 1), -2);
        due.is("row of itself", x.node(6, made + 1, 1), -2);
        due.is("row of node 0", x.node(6, 0, 1), -2);
        due.is("row of node -1", x.node(6, 1, -1), -2);
        due.is("row of the latest", x.node(6, made, made), ++made);
        due.is("nodes", x.count(1), made);
        due.is("refused", x.refused(), ofCells.length * 5 + ofBoth.length * 4 + 4);
    }

    private static void places() {
        PlainCobol x = new PlainCobol(10);
        x.cell(3, 1);
        int[] wrong = {0, 1, 80, 100, 181, 199, 200, 2400, 2481, 2501, -101, -1,
            Integer.MIN_VALUE, Integer.MAX_VALUE};
        for (int place : wrong) {
            due.is("place " + place, x.node(9, 1, place), -4);
            due.is("no cell ahead of place " + place, x.node(9, 2, place), -2);
        }
        int[] right = {101, 180, 201, 2401, 2480, 1240};
        for (int i = 0; i < right.length; i++) {
            due.is("place " + right[i], x.node(9, 1, right[i]), i + 1);
            due.is("no cell", x.node(9, 0, right[i]), -2);
        }
    }

    private static void twoHundred() {
        PlainCobol x = new PlainCobol(10);
        x.cell(3, 1);
        for (int i = 1; i <= 200; i++) {
            due.is("node " + i, x.node(0, 0, 0), i);
        }
        due.is("201st node", x.node(0, 0, 0), PlainCobol.NONE);
        due.is("201st node, no kind", x.node(13, 0, 0), -2);
        due.is("201st node, no cell", x.node(1, 2, 1), -2);
        due.is("201st node, no place", x.node(9, 1, 99), -4);
        due.is("201st node, display", x.node(9, 1, 101), PlainCobol.NONE);
        due.is("nodes", x.count(1), 200);
        due.is("refused", x.refused(), 5);
    }
}

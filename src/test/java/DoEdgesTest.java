/** What it is to DO a node of each kind: the boundaries that the sentences on nodes name. */
public final class DoEdgesTest {
    private static final Due due = new Due();
    private static final long MOST = Made.MOST;

    public static void main(String[] args) {
        nothing();
        move();
        add();
        subtract();
        multiply();
        divide();
        moreDigitsThanB();
        divisorIsZero();
        row();
        ifNotZero();
        loop();
        display();
        behindColumnEighty();
        store();
        noKey();
        raise();
        ifBelow();
        actsOfUnitZero();
        due.finish();
    }

    private static void nothing() {
        due.sentence("Terms", "To DO one: 0 nothing (A, B are not looked at).");
        int[] numbers = {0, -1, 1, 61, 201, Integer.MIN_VALUE, Integer.MAX_VALUE};
        for (int a : numbers) {
            PlainCobol x = new PlainCobol(9);
            x.cell(1, 5);
            due.is("node(0, " + a + ", ..)", x.node(0, a, -a), 1);
            due.runs(x, 1, 1, 1);
            due.is("no cell changes", x.number(1), 5);
            due.is("no act", x.count(2), 0);
        }
    }

    private static void becomes(int kind, long a, int size, long b, long value) {
        String what = "kind " + kind + " of A " + a + ", B " + b + " in " + size + " digits";
        PlainCobol x = Made.pair(kind, a, size, b);
        due.is(what, x.run(1), 1);
        due.is("B after " + what, x.number(2), value);
        due.is("A after " + what, x.number(1), a);
    }

    private static void raises(int kind, long a, int size, long b) {
        String what = "kind " + kind + " of A " + a + ", B " + b + " in " + size + " digits";
        PlainCobol x = Made.pair(kind, a, size, b);
        due.is(what, x.run(1), 2);
        due.is("B after " + what, x.number(2), b);
        due.is("A after " + what, x.number(1), a);
    }

    /** A and B are the same cell. */
    private static void ofItself(int kind, long value, int outcome, long after) {
        PlainCobol x = new PlainCobol(9);
        x.cell(2, value);
        x.node(kind, 1, 1);
        due.is("kind " + kind + " of " + value + " and itself", x.run(1), outcome);
        due.is("after it", x.number(1), after);
    }

    private static void move() {
        due.sentence("Terms", "1 MOVE: cell B becomes cell A's value, its lowest digits.");
        becomes(1, 99, 2, -5, 99);
        becomes(1, 100, 2, 5, 0);
        becomes(1, -101, 2, 5, -1);
        becomes(1, -100, 2, 5, 0);
        becomes(1, -99, 2, 5, -99);
        becomes(1, 19, 1, 5, 9);
        becomes(1, 0, 1, -5, 0);
        becomes(1, MOST, 18, 5, MOST);
        becomes(1, -MOST, 18, 5, -MOST);
        becomes(1, -MOST, 17, 5, -99999999999999999L);
        becomes(1, 100000000000000000L, 17, 5, 0);
        ofItself(1, -42, 1, -42);
    }

    private static void add() {
        due.sentence("Terms", "2 ADD: cell B becomes B + A");
        becomes(2, 4, 1, 5, 9);
        becomes(2, -4, 1, -5, -9);
        becomes(2, -8, 1, 5, -3);
        becomes(2, 1, 18, MOST - 1, MOST);
        becomes(2, -1, 18, 1 - MOST, -MOST);
        becomes(2, -MOST, 18, MOST, 0);
        becomes(2, -100, 2, 99, -1);
        ofItself(2, 49, 1, 98);
    }

    private static void subtract() {
        due.sentence("Terms", "3 SUBTRACT: B - A");
        becomes(3, 9, 1, 0, -9);
        becomes(3, -4, 1, 5, 9);
        becomes(3, 4, 1, -5, -9);
        becomes(3, 1, 18, 1 - MOST, -MOST);
        becomes(3, -1, 18, MOST - 1, MOST);
        becomes(3, MOST, 18, MOST, 0);
        becomes(3, 100, 2, 99, -1);
        ofItself(3, -49, 1, 0);
    }

    private static void multiply() {
        due.sentence("Terms", "4 MULTIPLY: B * A");
        becomes(4, 3, 1, 3, 9);
        becomes(4, -3, 1, 3, -9);
        becomes(4, -3, 1, -3, 9);
        becomes(4, 3, 1, -3, -9);
        becomes(4, MOST, 1, 0, 0);
        becomes(4, 0, 18, MOST, 0);
        becomes(4, MOST, 18, 1, MOST);
        becomes(4, -1, 18, -MOST, MOST);
        becomes(4, 1000000001L, 18, 999999999L, MOST);
        becomes(4, -1000000001L, 18, 999999999L, -MOST);
        ofItself(4, -9, 1, 81);
    }

    private static void divide() {
        due.sentence("Terms", "5 DIVIDE: B / A (towards 0)");
        becomes(5, 10, 2, 99, 9);
        becomes(5, -10, 2, 99, -9);
        becomes(5, 10, 2, -99, -9);
        becomes(5, -10, 2, -99, 9);
        becomes(5, 100, 2, -99, 0);
        becomes(5, 99, 2, -99, -1);
        becomes(5, 98, 2, 99, 1);
        becomes(5, 5, 2, 0, 0);
        becomes(5, -1, 18, -MOST, MOST);
        becomes(5, 1, 1, -9, -9);
        becomes(5, MOST, 18, MOST - 1, 0);
        ofItself(5, -42, 1, 1);
    }

    private static void moreDigitsThanB() {
        due.sentence("Terms", "by these it RAISES, changing nothing, when the value has more digits than B");
        raises(2, 5, 1, 5);
        raises(2, -5, 1, -5);
        raises(2, 1, 17, 99999999999999999L);
        raises(2, 1, 18, MOST);
        raises(2, -1, 18, -MOST);
        raises(2, MOST, 18, MOST);
        raises(2, -MOST, 18, -MOST);
        raises(2, 100, 2, 0);
        long power = 1;
        for (int size = 1; size <= 17; size++) {
            power *= 10;
            raises(2, 1, size, power - 1);
            raises(3, 1, size, 1 - power);
            raises(4, 10, size, power / 10);
            becomes(2, power - 1, size, 0, power - 1);
            raises(2, power, size, 0);
        }
        ofItself(2, 50, 2, 50);
        raises(3, 5, 1, -5);
        raises(3, -5, 1, 5);
        raises(3, -1, 18, MOST);
        raises(3, 1, 18, -MOST);
        raises(3, MOST, 18, -MOST);
        raises(3, 100, 2, 0);
        raises(4, 5, 1, 2);
        raises(4, -5, 1, 2);
        raises(4, -5, 1, -2);
        raises(4, 10, 18, 100000000000000000L);
        raises(4, 1000000000L, 18, -1000000000L);
        raises(4, MOST, 18, MOST);
        raises(4, -MOST, 18, 2);
        // Products that a long cannot hold, and would show as 0, as 2^63 and as a small number.
        raises(4, 1L << 32, 18, 1L << 32);
        raises(4, 1L << 32, 18, 1L << 31);
        raises(4, 3037000500L, 18, 6074001000L);
        raises(4, 274177L, 18, 67280421310721L);
        ofItself(4, 10, 2, 10);
    }

    private static void divisorIsZero() {
        due.sentence("Terms", "or (5) A is 0.");
        raises(5, 0, 3, 7);
        raises(5, 0, 3, -7);
        raises(5, 0, 3, 0);
        raises(5, 0, 18, MOST);
        ofItself(5, 0, 2, 0);
        becomes(5, 1, 3, 7, 7);
        becomes(5, -1, 3, 7, -7);
    }

    private static void row() {
        due.sentence("Terms", "6 ROW: node A, then node B.");
        PlainCobol x = new PlainCobol(99);
        x.cell(2, 5);
        x.cell(2, 1);
        x.node(2, 1, 2);
        x.node(4, 1, 2);
        x.node(6, 1, 2);
        x.node(6, 2, 1);
        x.node(6, 1, 1);
        x.node(1, 1, 2);
        due.runs(x, 3, 1, 3);
        due.is("(1 + 5) * 5", x.number(2), 30);
        x.run(6);
        due.runs(x, 4, 1, 3);
        due.is("5 * 5 + 5", x.number(2), 30);
        due.runs(x, 5, 1, 3);
        due.is("the same one twice", x.number(2), 40);
        x.node(11, 0, 0);
        x.node(6, 7, 1);
        x.node(6, 1, 7);
        due.runs(x, 8, 2, 2);
        due.is("B is not done behind an A that raises", x.number(2), 40);
        due.runs(x, 9, 2, 3);
        due.is("A is done ahead of a B that raises", x.number(2), 45);
    }

    private static void isDone(int kind, long value, boolean done) {
        PlainCobol x = new PlainCobol(9);
        x.cell(18, value);
        x.cell(1, 3);
        x.node(2, 2, 2);
        x.node(kind, 1, 1);
        due.runs(x, 2, 1, done ? 2 : 1);
        due.is("kind " + kind + " with " + value, x.number(2), done ? 6 : 3);
    }

    private static void ifNotZero() {
        due.sentence("Terms", "7 IF: node B, if cell A is not 0.");
        isDone(7, 0, false);
        isDone(7, 1, true);
        isDone(7, -1, true);
        isDone(7, MOST, true);
        isDone(7, -MOST, true);
        // The lowest 32 bits of this one are 0.
        isDone(7, 1L << 32, true);
    }

    /** Cell 1 goes by step to cell 3, which counts the rounds. */
    private static void rounds(long from, int kind, int rounds) {
        PlainCobol x = new PlainCobol(5000);
        x.cell(3, from);
        x.cell(1, 1);
        x.cell(3, 0);
        x.node(kind, 2, 1);
        x.node(2, 2, 3);
        x.node(6, 1, 2);
        x.node(8, 1, 3);
        due.runs(x, 4, 1, 1 + 4 * rounds);
        due.is("rounds from " + from, x.number(3), rounds);
        due.is("it stops at 0", x.number(1), 0);
    }

    private static void loop() {
        due.sentence("Terms", "8 LOOP: node B again and again, as long as cell A is not 0.");
        rounds(0, 3, 0);
        rounds(1, 3, 1);
        rounds(2, 3, 2);
        rounds(-1, 2, 1);
        rounds(-3, 2, 3);
        rounds(999, 3, 999);
        // Within a round cell 1 is 0 for a while: it is looked at ahead of each round alone.
        PlainCobol x = new PlainCobol(99);
        x.cell(2, 3);
        x.cell(2, 3);
        x.cell(1, 1);
        x.cell(1, 0);
        x.node(1, 4, 1);
        x.node(3, 3, 2);
        x.node(1, 2, 1);
        x.node(6, 1, 2);
        x.node(6, 4, 3);
        x.node(8, 1, 5);
        due.runs(x, 6, 1, 1 + 3 * 6);
        due.is("three rounds", x.number(2), 0);
    }

    private static PlainCobol shown(int size, long value, int place) {
        PlainCobol x = new PlainCobol(9);
        x.cell(size, value);
        x.node(9, 1, place);
        due.runs(x, 1, 1, 1);
        return x;
    }

    private static void display() {
        due.sentence("Terms", "9 DISPLAY: cell A's digits (all, a - ahead if it is below 0) "
            + "become SIGNS from place B on, in its row");
        due.shows(shown(1, 0, 101), 1, 1, "0 ");
        due.shows(shown(1, 9, 101), 1, 1, "9 ");
        due.shows(shown(1, -9, 101), 1, 1, "-9 ");
        due.shows(shown(1, -1, 101), 1, 1, "-1 ");
        due.shows(shown(5, 42, 210), 2, 9, " 00042 ");
        due.shows(shown(5, -42, 210), 2, 9, " -00042 ");
        due.shows(shown(3, 0, 2401), 24, 1, "000 ");
        due.shows(shown(18, MOST, 101), 1, 1, "999999999999999999 ");
        due.shows(shown(18, -123456789012345678L, 101), 1, 1, "-123456789012345678 ");
        PlainCobol x = shown(2, 12, 1240);
        due.shows(x, 11, 40, "  ");
        due.shows(x, 12, 39, " 12 ");
        due.shows(x, 13, 40, "  ");
        PlainCobol y = shown(2, 34, 101);
        y.cell(1, 5);
        y.node(9, 2, 102);
        due.runs(y, 2, 1, 1);
        due.shows(y, 1, 1, "35 ");
    }

    private static void lost(int size, long value, int row, int column, String left) {
        PlainCobol x = shown(size, value, 100 * row + column);
        due.shows(x, row, column, left);
        due.is("acts", x.count(2), left.length());
        due.is("signs", x.second(), left.length());
        if (row < 24) {
            due.shows(x, row + 1, 1, " ".repeat(18));
        }
    }

    private static void behindColumnEighty() {
        due.sentence("Terms", "what would stand behind column 80 is lost, and no ACT.");
        long value = 123456789012345678L;
        lost(18, value, 1, 63, "123456789012345678");
        lost(18, value, 1, 64, "12345678901234567");
        lost(18, -value, 1, 62, "-123456789012345678");
        lost(18, -value, 1, 63, "-12345678901234567");
        lost(18, -value, 23, 79, "-1");
        lost(18, -value, 23, 80, "-");
        lost(18, value, 24, 79, "12");
        lost(18, value, 24, 80, "1");
        lost(1, 5, 24, 80, "5");
        lost(1, -5, 24, 80, "-");
        lost(2, 56, 2, 79, "56");
    }

    private static PlainCobol stored(long key, long value, int outcome) {
        PlainCobol x = Made.pair(10, key, 18, value);
        due.runs(x, 1, outcome, 1);
        due.is("acts", x.count(2), outcome == 1 ? 1 : 0);
        due.is("records", x.count(3), outcome == 1 ? 1 : 0);
        return x;
    }

    private static void store() {
        due.sentence("Terms", "10 STORE: a PUT of file 0, its key being cell A's value, its value cell B's");
        long[] keys = {0, 1, 999998, 999999};
        long[] values = {0, -1, MOST, -MOST};
        for (long key : keys) {
            for (long value : values) {
                PlainCobol x = stored(key, value, 1);
                due.is("key", x.record(0, 0, 0), key);
                due.is("lowest", x.record(0, 0, 1), (int) value);
                due.is("highest", x.record(0, 0, 2), (int) (value >> 32));
                due.is("file 1", x.record(1, 0, 0), PlainCobol.NONE);
            }
        }
        PlainCobol x = stored(7, 5, 1);
        x.node(10, 1, 1);
        due.runs(x, 2, 1, 1);
        due.is("in place of another one", x.count(3), 1);
        due.is("key and value are one cell's", x.record(0, 0, 1), 7);
        due.is("acts", x.count(2), 2);
    }

    private static void noKey() {
        due.sentence("Terms", "it RAISES, if that is no key.");
        long[] keys = {-1, 1000000, 1000007, 4000000, MOST, -MOST, 1L << 32, -999999};
        for (long key : keys) {
            PlainCobol x = stored(key, 5, 2);
            for (int file = 0; file < 4; file++) {
                due.is("no record in file " + file, x.record(file, 0, 0), PlainCobol.NONE);
            }
        }
    }

    private static void raise() {
        due.sentence("Terms", "11 it RAISES (A, B are not looked at).");
        int[] numbers = {0, -1, 1, 61, 201, Integer.MIN_VALUE, Integer.MAX_VALUE};
        for (int a : numbers) {
            PlainCobol x = new PlainCobol(1);
            due.is("node(11, " + a + ", ..)", x.node(11, a, -a), 1);
            due.runs(x, 1, 2, 1);
        }
    }

    private static void ifBelow() {
        due.sentence("Terms", "12 IF: node B, if cell A is below 0.");
        isDone(12, 0, false);
        isDone(12, 1, false);
        isDone(12, -1, true);
        isDone(12, MOST, false);
        isDone(12, -MOST, true);
        // As an int this one is below 0.
        isDone(12, 1L << 31, false);
    }

    private static void actsOfUnitZero() {
        due.sentence("Terms", "(A DISPLAY's signs, each by itself, and a STORE are ACTS of unit 0.)");
        PlainCobol x = new PlainCobol(9);
        x.cell(3, -42);
        x.cell(3, 42);
        x.node(9, 1, 101);
        x.node(10, 2, 1);
        x.node(6, 1, 2);
        due.runs(x, 3, 1, 3);
        due.is("four signs and a record", x.count(2), 5);
        due.is("second", x.second(), 5);
        x.node(11, 0, 0);
        x.node(6, 3, 4);
        due.runs(x, 5, 2, 5);
        due.is("they go with a run that raises", x.count(2), 5);
        for (int unit = 1; unit <= 8; unit++) {
            due.is("none is unit " + unit + "'s", x.commit(unit), 0);
        }
    }
}

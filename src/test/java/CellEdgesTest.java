/** The sentences on cells, and promises 2, 5, 6 and 13: the boundaries that each one names. */
public final class CellEdgesTest {
    private static final Due due = new Due();
    private static final long MOST = Made.MOST;

    public static void main(String[] args) {
        numberedFromOne();
        sizes();
        zeroHasNoSign();
        cutWhereItSaysSo();
        newCell();
        sizeOutside();
        noRoom();
        bytes();
        noSuchByte();
        number();
        real();
        due.finish();
    }

    private static PlainCobol full() {
        PlainCobol x = new PlainCobol(1);
        for (int i = 1; i <= 60; i++) {
            due.is("cell " + i, x.cell(3, 100 + i), i);
        }
        return x;
    }

    private static void numberedFromOne() {
        due.sentence("Terms", "CELLS are numbered from 1 on (at most 60)");
        PlainCobol x = full();
        due.is("cell 0 is none", x.number(0), 0);
        for (int i = 1; i <= 60; i++) {
            due.is("value of cell " + i, x.number(i), 100 + i);
        }
        due.is("61st", x.cell(3, 161), PlainCobol.NONE);
        due.is("value of cell 61", x.number(61), 0);
        due.is("cells", x.count(0), 60);
    }

    private static void sizes() {
        due.sentence("Terms", "each of a SIZE, 1 .. 18 digits, and a sign");
        PlainCobol x = new PlainCobol(1);
        long nines = 0;
        for (int size = 1; size <= 18; size++) {
            nines = nines * 10 + 9;
            due.is("cell of size " + size, x.cell(size, nines), 2 * size - 1);
            due.is("cell of size " + size, x.cell(size, -nines), 2 * size);
            due.is(size + " nines", x.number(2 * size - 1), nines);
            due.is(size + " nines below 0", x.number(2 * size), -nines);
            due.at(x, 2 * size, size - 1, 121);
            due.at(x, 2 * size, size, -1);
        }
        PlainCobol y = new PlainCobol(1);
        long power = 1;
        for (int size = 1; size <= 18; size++) {
            power *= 10;
            y.cell(size, power);
            due.is("10 to the " + size + "th has a digit too many", y.number(2 * size - 1), 0);
            y.cell(size, -power - 1);
            due.is("one more below 0", y.number(2 * size), -1);
        }
    }

    /** Cell 2 is 0 and had a sign a moment ago: nothing may tell. */
    private static void isPlainZero(PlainCobol x, int nodes) {
        due.is("value", x.number(2), 0);
        due.at(x, 2, 1, 48);
        due.isReal("real", x.real(2), 0.0);
        x.node(11, 0, 0);
        x.node(12, 2, nodes + 1);
        due.is("it is not below 0", x.run(nodes + 2), 1);
        x.node(7, 2, nodes + 1);
        due.is("it is 0", x.run(nodes + 3), 1);
        x.node(9, 2, 101);
        due.is("it is displayed", x.run(nodes + 4), 1);
        due.shows(x, 1, 1, "00 ");
        due.is("two signs", x.count(2), 2);
    }

    private static void zeroHasNoSign() {
        due.sentence("Terms", "0 has no sign.");
        int[] kinds = {1, 2, 3, 4, 5};
        long[] as = {-500, 5, -5, 0, 9};
        for (int i = 0; i < kinds.length; i++) {
            PlainCobol x = Made.pair(kinds[i], as[i], 2, -5);
            due.is("kind " + kinds[i], x.run(1), 1);
            isPlainZero(x, 1);
        }
        PlainCobol made = new PlainCobol(100);
        made.cell(1, 0);
        made.cell(2, -500);
        isPlainZero(made, 0);
    }

    private static void cutWhereItSaysSo() {
        due.sentence("Terms", "What a cell can't hold by its digits is cut to the lowest ones where it says so.");
        PlainCobol x = new PlainCobol(1);
        x.cell(2, 1234);
        due.is("a new cell is cut", x.number(1), 34);
        int[] kinds = {1, 2, 3, 4};
        int[] outcomes = {1, 2, 2, 2};
        long[] after = {34, 56, 56, 56};
        for (int i = 0; i < kinds.length; i++) {
            PlainCobol y = Made.pair(kinds[i], 1234, 2, 56);
            due.is("kind " + kinds[i], y.run(1), outcomes[i]);
            due.is("cell B after kind " + kinds[i], y.number(2), after[i]);
        }
    }

    private static void newCell() {
        due.sentence("Promise 2", "A new cell with v's lowest digits: its number");
        PlainCobol x = new PlainCobol(1);
        int[] sizes = {1, 1, 1, 3, 3, 18, 18, 18, 18, 18, 17, 2, 2, 2};
        long[] given = {9, 10, -19, 1000, -1001, MOST, MOST + 1, -MOST - 1, Long.MIN_VALUE,
            Long.MAX_VALUE, MOST, -100, Long.MIN_VALUE, Long.MAX_VALUE};
        long[] kept = {9, 0, -9, 0, -1, MOST, 0, 0, -223372036854775808L,
            223372036854775807L, 99999999999999999L, 0, -8, 7};
        for (int i = 0; i < sizes.length; i++) {
            due.is("number of the new cell", x.cell(sizes[i], given[i]), i + 1);
            due.is(given[i] + " in " + sizes[i] + " digits", x.number(i + 1), kept[i]);
        }
    }

    private static void sizeOutside() {
        due.sentence("Promise 2", "-4 size is not 1 .. 18");
        PlainCobol x = new PlainCobol(1);
        int[] wrong = {0, 19, -1, -18, Integer.MIN_VALUE, Integer.MAX_VALUE};
        for (int size : wrong) {
            due.is("cell(" + size + ", 5)", x.cell(size, 5), -4);
        }
        due.is("no cell came", x.count(0), 0);
        due.is("size 1", x.cell(1, 5), 1);
        due.is("size 18", x.cell(18, 5), 2);
    }

    private static void noRoom() {
        due.sentence("Promise 2", "NONE.");
        PlainCobol x = full();
        due.is("61st cell, size 1", x.cell(1, 5), PlainCobol.NONE);
        due.is("61st cell, size 18", x.cell(18, 5), PlainCobol.NONE);
        due.is("cells", x.count(0), 60);
    }

    private static void bytes() {
        due.sentence("Promise 5", "The i-th byte (from 0) of a cell: its digits, as 48 + digit, "
            + "the last one of a cell below 0 as 112 + digit.");
        PlainCobol x = new PlainCobol(1);
        for (int digit = 0; digit <= 9; digit++) {
            x.cell(1, digit);
            due.at(x, 2 * digit + 1, 0, 48 + digit);
            x.cell(2, -10 - digit);
            due.at(x, 2 * digit + 2, 0, 49);
            due.at(x, 2 * digit + 2, 1, 112 + digit);
        }
        x.cell(18, -5);
        for (int i = 0; i < 17; i++) {
            due.at(x, 21, i, 48);
        }
        due.at(x, 21, 17, 117);
        x.cell(18, MOST);
        due.at(x, 22, 0, 57);
        due.at(x, 22, 17, 57);
        x.cell(1, -1);
        due.at(x, 23, 0, 113);
        for (int size = 1; size <= 18; size++) {
            int cell = x.cell(size, 987654321987654321L);
            for (int i = 0; i < size; i++) {
                due.at(x, cell, i, 48 + (size - 1 - i) % 9 + 1);
            }
        }
    }

    private static void noSuchByte() {
        due.sentence("Promise 5", "ArrayIndexOutOfBoundsException when there is no such cell or byte.");
        PlainCobol x = new PlainCobol(1);
        due.at(x, 1, 0, -1);
        due.at(x, 0, 0, -1);
        x.cell(1, 5);
        x.cell(18, 5);
        int[] noByteOfOne = {-1, 1, 2, 17, Integer.MIN_VALUE, Integer.MAX_VALUE};
        for (int i : noByteOfOne) {
            due.at(x, 1, i, -1);
        }
        int[] noByteOfTwo = {-1, 18, 19, Integer.MIN_VALUE, Integer.MAX_VALUE};
        for (int i : noByteOfTwo) {
            due.at(x, 2, i, -1);
        }
        int[] noCell = {-1, 0, 3, 60, 61, Integer.MIN_VALUE, Integer.MAX_VALUE};
        for (int cell : noCell) {
            due.at(x, cell, 0, -1);
        }
        PlainCobol y = full();
        due.at(y, 60, 2, 48);
        due.at(y, 60, 3, -1);
        due.at(y, 61, 0, -1);
    }

    private static void number() {
        due.sentence("Promise 6", "A cell's value; 0 without it.");
        PlainCobol x = new PlainCobol(1);
        due.is("without any cell", x.number(1), 0);
        x.cell(18, -MOST);
        due.is("lowest value", x.number(1), -MOST);
        int[] noCell = {-1, 0, 2, 60, 61, Integer.MIN_VALUE, Integer.MAX_VALUE};
        for (int cell : noCell) {
            due.is("number(" + cell + ")", x.number(cell), 0);
        }
    }

    private static void real() {
        due.sentence("Promise 13", "A cell's value as a double (the nearest one), divided by 100.0; "
            + "0.0 without it.");
        PlainCobol x = new PlainCobol(1);
        due.isReal("without any cell", x.real(1), 0.0);
        // From 2^53 on not every value is a double: the nearest one, and of two the even one.
        long[] values = {0, 7, -7, 100, 9007199254740992L, 9007199254740993L, 9007199254740995L,
            -9007199254740993L, MOST, -MOST};
        double[] nearest = {0.0, 7.0, -7.0, 100.0, 9007199254740992.0, 9007199254740992.0,
            9007199254740996.0, -9007199254740992.0, 1e18, -1e18};
        for (int i = 0; i < values.length; i++) {
            x.cell(18, values[i]);
            due.isReal("real of " + values[i], x.real(i + 1), nearest[i] / 100.0);
        }
        int[] noCell = {-1, 0, values.length + 1, 61, Integer.MIN_VALUE, Integer.MAX_VALUE};
        for (int cell : noCell) {
            due.isReal("real(" + cell + ")", x.real(cell), 0.0);
        }
    }
}

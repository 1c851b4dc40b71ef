/** Promises 2, 5, 6 and 13: cell, at, number, real. */
public final class CellTest {
    private static final Due due = new Due();

    public static void main(String[] args) {
        sizes();
        lowestDigits();
        sixty();
        bytes();
        noByte();
        numbers();
        reals();
        due.finish();
    }

    private static void sizes() {
        PlainCobol x = new PlainCobol(10);
        int[] wrong = {0, -1, 19, 20, Integer.MIN_VALUE, Integer.MAX_VALUE};
        for (int size : wrong) {
            due.is("cell of size " + size, x.cell(size, 7), -4);
        }
        due.is("cells", x.count(0), 0);
        due.is("refused", x.refused(), wrong.length);
        for (int size = 1; size <= 18; size++) {
            due.is("cell of size " + size, x.cell(size, 7), size);
            due.is("its value", x.number(size), 7);
            due.at(x, size, size - 1, 55);
            due.at(x, size, size, -1);
        }
    }

    private static void lowestDigits() {
        PlainCobol x = new PlainCobol(10);
        x.cell(3, 12345);
        due.is("345", x.number(1), 345);
        x.cell(3, -12345);
        due.is("-345", x.number(2), -345);
        x.cell(2, -500);
        due.is("-500 in two digits", x.number(3), 0);
        due.at(x, 3, 1, 48);
        x.cell(18, Long.MIN_VALUE);
        due.is("lowest long", x.number(4), -223372036854775808L);
        x.cell(18, Long.MAX_VALUE);
        due.is("highest long", x.number(5), 223372036854775807L);
        x.cell(18, 1000000000000000000L);
        due.is("10 to the 18th", x.number(6), 0);
        x.cell(1, Long.MIN_VALUE);
        due.is("lowest long, one digit", x.number(7), -8);
        x.cell(18, -999999999999999999L);
        due.is("18 nines below 0", x.number(8), -999999999999999999L);
    }

    private static void sixty() {
        PlainCobol x = new PlainCobol(10);
        for (int i = 1; i <= 60; i++) {
            due.is("cell " + i, x.cell(2, i), i);
        }
        due.is("61st cell", x.cell(2, 1), PlainCobol.NONE);
        due.is("61st cell of no size", x.cell(0, 1), -4);
        due.is("61st cell of no size", x.cell(19, 1), -4);
        due.is("cells", x.count(0), 60);
        due.is("refused", x.refused(), 3);
        due.is("last cell", x.number(60), 60);
        due.is("no cell", x.number(61), 0);
    }

    private static void bytes() {
        PlainCobol x = new PlainCobol(10);
        x.cell(5, 307);
        int[] above = {48, 48, 51, 48, 55};
        x.cell(5, -307);
        int[] below = {48, 48, 51, 48, 119};
        x.cell(1, -9);
        x.cell(2, -10);
        for (int i = 0; i < 5; i++) {
            due.at(x, 1, i, above[i]);
            due.at(x, 2, i, below[i]);
        }
        due.at(x, 3, 0, 121);
        due.at(x, 4, 0, 49);
        due.at(x, 4, 1, 112);
        x.cell(18, -123456789012345678L);
        for (int i = 0; i < 17; i++) {
            due.at(x, 5, i, 48 + (i + 1) % 10);
        }
        due.at(x, 5, 17, 120);
    }

    private static void noByte() {
        PlainCobol x = new PlainCobol(10);
        due.at(x, 1, 0, -1);
        x.cell(3, 1);
        int[] wrong = {-1, 3, 18, Integer.MIN_VALUE, Integer.MAX_VALUE};
        for (int i : wrong) {
            due.at(x, 1, i, -1);
        }
        int[] noCell = {-1, 0, 2, 60, 61, Integer.MIN_VALUE, Integer.MAX_VALUE};
        for (int cell : noCell) {
            due.at(x, cell, 0, -1);
        }
        due.is("a throw is no refusal", x.refused(), 0);
    }

    private static void numbers() {
        PlainCobol x = new PlainCobol(10);
        x.cell(4, -12);
        int[] noCell = {-1, 0, 2, 61, Integer.MIN_VALUE, Integer.MAX_VALUE};
        for (int cell : noCell) {
            due.is("number(" + cell + ")", x.number(cell), 0);
            due.isReal("real(" + cell + ")", x.real(cell), 0.0);
        }
        due.is("refused", x.refused(), 0);
    }

    private static void reals() {
        PlainCobol x = new PlainCobol(10);
        long[] values = {0, 1, -1, 345, -12345, 999999999999999999L, -999999999999999999L,
            123456789012345678L, 9007199254740993L, -9007199254740995L, -1000};
        for (int i = 0; i < values.length; i++) {
            x.cell(18, values[i]);
            due.isReal("real of " + values[i], x.real(i + 1), (double) values[i] / 100.0);
        }
        due.isReal("3.45", x.real(4), 3.45);
        due.isReal("0.0", x.real(1), 0.0);
        x.cell(2, -700);
        due.isReal("-700 cut to 0 has no sign", x.real(values.length + 1), 0.0);
    }
}

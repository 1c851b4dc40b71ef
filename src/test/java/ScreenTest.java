/** Promise 12: screen. */
public final class ScreenTest {
    private static final Due due = new Due();

    public static void main(String[] args) {
        everyPlace();
        latestSign();
        outside();
        due.finish();
    }

    /** Each place is written by itself, so that one that lands on another is seen. */
    private static void everyPlace() {
        PlainCobol x = null;
        int calls = 0;
        for (int row = 1; row <= 24; row++) {
            for (int column = 1; column <= 80; column++) {
                if (calls % 100 == 0) {
                    x = new PlainCobol(1);
                }
                calls++;
                int sign = 33 + (row * 80 + column) % 94;
                due.is("32 ahead", x.screen(row, column), 32);
                due.is("act", x.act(8, 4, row * 100 + column, sign), 1);
                due.is("commit", x.commit(8), 1);
                due.is("screen(" + row + ", " + column + ")", x.screen(row, column), sign);
            }
        }
    }

    private static void latestSign() {
        PlainCobol x = new PlainCobol(1);
        x.act(1, 4, 305, 65);
        x.act(1, 4, 305, 66);
        x.commit(1);
        due.is("latest", x.screen(3, 5), 66);
        due.is("left", x.screen(3, 4), 32);
        due.is("right", x.screen(3, 6), 32);
        due.is("over", x.screen(2, 5), 32);
        due.is("under", x.screen(4, 5), 32);
        due.is("second", x.second(), 1);
        x.act(1, 4, 305, 32);
        x.commit(1);
        due.is("blank", x.screen(3, 5), 32);
        due.is("a blank counts too", x.second(), 1);
    }

    private static void outside() {
        PlainCobol x = new PlainCobol(1);
        int[] rows = {0, -1, 25, 100, Integer.MIN_VALUE, Integer.MAX_VALUE};
        int[] columns = {0, -1, 81, 100, Integer.MIN_VALUE, Integer.MAX_VALUE};
        for (int i = 0; i < rows.length; i++) {
            due.is("row " + rows[i], x.screen(rows[i], 1), PlainCobol.NONE);
            due.is("column " + columns[i], x.screen(1, columns[i]), PlainCobol.NONE);
            due.is("both", x.screen(rows[i], columns[i]), PlainCobol.NONE);
        }
        due.is("not refused", x.refused(), 0);
    }
}

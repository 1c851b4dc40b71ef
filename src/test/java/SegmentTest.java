/** Promise 11 with the segments of 8 and 15: segment. */
public final class SegmentTest {
    private static final Due due = new Due();

    public static void main(String[] args) {
        order();
        deleting();
        doneInOrder();
        neverMoreThanHundred();
        deepest();
        wrongInputs();
        due.finish();
    }

    private static void insert(PlainCobol x, long above, long value) {
        x.act(1, 2, above, value);
    }

    private static void numbers(PlainCobol x, int... want) {
        x.commit(1);
        due.is("segments that are there", x.count(4), want.length);
        for (int i = 0; i < want.length; i++) {
            due.is("segment " + i, x.segment(i, 0), want[i]);
        }
        due.is("behind the last", x.segment(want.length, 0), PlainCobol.NONE);
        due.is("second", x.second(), want.length);
    }

    private static void order() {
        PlainCobol x = new PlainCobol(1);
        insert(x, 0, 1);
        insert(x, 0, 2);
        insert(x, 1, 3);
        insert(x, 3, 1L << 40);
        insert(x, 2, 5);
        insert(x, 1, -6);
        insert(x, 0, 7);
        insert(x, 3, 8);
        numbers(x, 1, 3, 4, 8, 6, 2, 5, 7);
        int[] above = {0, 1, 3, 3, 1, 0, 2, 0};
        int[] depths = {0, 1, 2, 2, 1, 0, 1, 0};
        for (int i = 0; i < above.length; i++) {
            due.is("above", x.segment(i, 1), above[i]);
            due.is("how many are above", x.segment(i, 2), depths[i]);
        }
        due.is("lowest", x.segment(2, 3), 0);
        due.is("highest", x.segment(2, 4), 256);
        due.is("lowest", x.segment(4, 3), -6);
        due.is("highest", x.segment(4, 4), -1);
    }

    private static void deleting() {
        PlainCobol x = new PlainCobol(1);
        insert(x, 0, 1);
        insert(x, 1, 2);
        insert(x, 2, 3);
        insert(x, 1, 4);
        insert(x, 0, 5);
        x.act(1, 3, 2, 77);
        numbers(x, 1, 4, 5);
        x.act(1, 3, 3, 0);
        x.act(1, 3, 2, 0);
        x.act(1, 3, 50, 0);
        insert(x, 3, 9);
        insert(x, 2, 9);
        insert(x, 6, 9);
        insert(x, 100, 9);
        numbers(x, 1, 4, 5);
        due.is("all count as done", x.count(2), 13);
        insert(x, 4, 6);
        numbers(x, 1, 4, 6, 5);
        x.act(1, 3, 1, 0);
        numbers(x, 5);
        x.act(1, 3, 5, 0);
        numbers(x);
        insert(x, 0, 7);
        numbers(x, 7);
        insert(x, 7, 8);
        insert(x, 8, 9);
        x.act(1, 3, 7, 0);
        numbers(x);
        due.is("not refused", x.refused(), 0);
    }

    private static void doneInOrder() {
        PlainCobol x = new PlainCobol(1);
        insert(x, 1, 1);
        insert(x, 0, 2);
        insert(x, 1, 3);
        x.act(1, 3, 1, 0);
        insert(x, 1, 4);
        insert(x, 0, 5);
        x.act(2, 2, 3, 6);
        numbers(x, 3);
        x.commit(2);
        numbers(x, 3, 4);
        due.is("value", x.segment(1, 3), 6);
    }

    private static void neverMoreThanHundred() {
        PlainCobol x = new PlainCobol(1);
        for (int i = 1; i <= 100; i++) {
            insert(x, i % 10 == 0 ? 0 : i / 10, i);
            if (i % 50 == 0) {
                due.is("commit", x.commit(1), 50);
            }
        }
        due.is("segments", x.count(4), 100);
        due.is("second", x.second(), 100);
        insert(x, 0, 101);
        x.act(1, 3, 100, 0);
        x.act(1, 3, 90, 0);
        insert(x, 0, 102);
        insert(x, 1, 103);
        due.is("commit", x.commit(1), 5);
        due.is("98 are there, and no new one", x.count(4), 98);
        for (int i = 0; i < 98; i++) {
            due.holds("a number up to 99", x.segment(i, 0) <= 99);
        }
        due.is("acts", x.count(2), 105);
        due.is("second", x.second(), 98);
    }

    private static void deepest() {
        PlainCobol x = new PlainCobol(1);
        for (int i = 0; i < 100; i++) {
            insert(x, i, i);
            if (i % 50 == 49) {
                x.commit(1);
            }
        }
        due.is("segments", x.count(4), 100);
        due.is("the last", x.segment(99, 2), 99);
        due.is("the last", x.segment(99, 1), 99);
        due.is("second", x.second(), 100);
        x.act(1, 3, 2, 0);
        x.commit(1);
        numbers(x, 1);
    }

    private static void wrongInputs() {
        PlainCobol x = new PlainCobol(1);
        insert(x, 0, 5);
        x.commit(1);
        int[] wrong = {-1, 5, 6, Integer.MIN_VALUE, Integer.MAX_VALUE};
        for (int w : wrong) {
            due.is("segment(" + w + ", 0)", x.segment(w, 0), PlainCobol.NONE);
            due.is("segment(0, " + w + ")", x.segment(0, w), PlainCobol.NONE);
        }
        due.is("segment(1, 0)", x.segment(1, 0), PlainCobol.NONE);
        due.is("not refused", x.refused(), 0);
    }
}

/** The sentences on units, acts and committing, and promises 8 and 9: the boundaries that each one names. */
public final class UnitEdgesTest {
    private static final Due due = new Due();
    private static final long LOW = Long.MIN_VALUE;
    private static final long HIGH = Long.MAX_VALUE;
    private static final int PUT = 0;
    private static final int DROP = 1;
    private static final int INSERT = 2;
    private static final int DELETE = 3;
    private static final int SIGN = 4;

    public static void main(String[] args) {
        fiftyActs();
        put();
        drop();
        insert();
        hundredSegments();
        delete();
        sign();
        dropOfNone();
        insertBelowNone();
        insertOfOneTooMany();
        deleteOfNone();
        committingInOrder();
        behindAllOthers();
        atMostThousand();
        oneMoreAct();
        noSuchUnitOrKind();
        numberOutside();
        noRoomInTheUnit();
        segmentsAreLookedForLater();
        committed();
        noSuchUnitToCommit();
        noRoomInTheRow();
        due.finish();
    }

    private static void commits(PlainCobol x, int acts) {
        due.is("commit(1)", x.commit(1), acts);
    }

    private static void numbers(PlainCobol x, int... want) {
        due.is("segments", x.count(4), want.length);
        for (int i = 0; i < want.length; i++) {
            due.is("segment(" + i + ", 0)", x.segment(i, 0), want[i]);
        }
        due.is("behind the last", x.segment(want.length, 0), PlainCobol.NONE);
        due.is("second", x.second(), want.length);
    }

    private static void fiftyActs() {
        due.sentence("Terms", "UNITS 1 .. 8 have at most 50 ACTS each that are not committed");
        for (int unit = 1; unit <= 8; unit++) {
            PlainCobol x = new PlainCobol(1);
            for (int i = 1; i <= 50; i++) {
                due.is("act " + i, x.act(unit, PUT, i, i), i);
            }
            due.is("51st", x.act(unit, PUT, 51, 51), PlainCobol.NONE);
            for (int other = 1; other <= 8; other++) {
                due.is("each by itself", x.act(other, PUT, 60, 60), other == unit ? PlainCobol.NONE : 1);
            }
            due.is("50 are committed", x.commit(unit), 50);
            due.is("51 is none of them", x.count(3), 50);
            due.is("room again", x.act(unit, PUT, 51, 51), 1);
        }
    }

    private static void put() {
        due.sentence("Terms", "ACTS, with longs a, b: 0 PUT: record a, 1000000 * file + KEY "
            + "(files 0 .. 3, keys 0 .. 999999), has the value b, in place of another one.");
        PlainCobol x = new PlainCobol(1);
        long[] values = {LOW, HIGH, 0, -1, 1L << 31, 1L << 32, -(1L << 32), 5};
        for (int file = 0; file < 4; file++) {
            x.act(1, PUT, 1000000L * file, values[2 * file]);
            x.act(1, PUT, 1000000L * file + 999999, values[2 * file + 1]);
        }
        commits(x, 8);
        for (int i = 0; i < 8; i++) {
            due.is("key", x.record(i / 2, i % 2, 0), i % 2 * 999999);
            due.is("lowest", x.record(i / 2, i % 2, 1), (int) values[i]);
            due.is("highest", x.record(i / 2, i % 2, 2), (int) (values[i] >> 32));
        }
        x.act(1, PUT, 1000000, 77);
        x.act(1, PUT, 3999999, 78);
        x.act(1, PUT, 3999999, 79);
        commits(x, 3);
        due.is("in place of another one", x.count(3), 8);
        due.is("the new value", x.record(1, 0, 1), 77);
        due.is("its highest bits too", x.record(1, 0, 2), 0);
        due.is("the newest value", x.record(3, 1, 1), 79);
        due.is("its neighbour", x.record(0, 1, 1), (int) HIGH);
    }

    private static void drop() {
        due.sentence("Terms", "1 DROP: record a goes (b is not looked at).");
        long[] bs = {LOW, -1, 0, 31, 127, HIGH};
        long[] keys = {0, 999999, 1000000, 1999999, 3000000, 3999999};
        PlainCobol x = new PlainCobol(1);
        for (long key : keys) {
            x.act(1, PUT, key, 5);
        }
        commits(x, 6);
        for (int i = 0; i < keys.length; i++) {
            due.is("drop of " + keys[i] + " with " + bs[i], x.act(1, DROP, keys[i], bs[i]), 1);
            commits(x, 1);
            due.is("records", x.count(3), 5 - i);
            due.is("second", x.second(), 5 - i);
        }
        x.act(1, PUT, 5, 5);
        x.act(1, DROP, 5, 5);
        x.act(1, PUT, 5, 6);
        commits(x, 3);
        due.is("it may come again", x.record(0, 0, 1), 6);
        dropOfMany();
    }

    /** The others keep their values and move up, from any place in a row of records that is nearly full. */
    private static void dropOfMany() {
        PlainCobol x = Made.filled(990);
        for (int i = 0; i < 5; i++) {
            x.act(1, PUT, 200L * i + 10, i);
        }
        commits(x, 5);
        long[] gone = {989, 0, 700, 5};
        for (long key : gone) {
            x.act(1, DROP, key, 0);
            commits(x, 1);
        }
        int[] places = {8, 208, 408, 608, 807};
        for (int i = 0; i < places.length; i++) {
            due.is("key", x.record(0, places[i], 0), 200 * i + 10);
            due.is("value", x.record(0, places[i], 1), i);
            due.is("the value ahead", x.record(0, places[i] - 1, 1), -7);
            due.is("the value behind", x.record(0, places[i] + 1, 1), -7);
        }
        due.is("the last", x.record(0, 985, 0), 988);
        due.is("behind the last", x.record(0, 986, 0), PlainCobol.NONE);
        due.is("second", x.second(), 986);
    }

    private static void insert() {
        due.sentence("Terms", "2 INSERT: a new SEGMENT with the value b, behind all others below segment a, "
            + "or, with a 0, behind all without one above;");
        PlainCobol x = new PlainCobol(1);
        long[] above = {0, 1, 0, 1, 2, 1, 0, 4, 2};
        for (int i = 0; i < above.length; i++) {
            x.act(1, INSERT, above[i], i % 2 == 0 ? LOW + i : HIGH - i);
        }
        commits(x, 9);
        numbers(x, 1, 2, 5, 9, 4, 8, 6, 3, 7);
        for (int i = 0; i < 9; i++) {
            int at = x.segment(i, 0) - 1;
            long value = at % 2 == 0 ? LOW + at : HIGH - at;
            due.is("above", x.segment(i, 1), above[at]);
            due.is("lowest", x.segment(i, 3), (int) value);
            due.is("highest", x.segment(i, 4), (int) (value >> 32));
        }
    }

    private static PlainCobol hundred() {
        PlainCobol x = new PlainCobol(1);
        for (int i = 1; i <= 100; i++) {
            x.act(1, INSERT, 0, i);
            if (i % 50 == 0) {
                commits(x, 50);
            }
        }
        return x;
    }

    private static void hundredSegments() {
        due.sentence("Terms", "they are numbered from 1 on, and there are never more than 100 in all, "
            + "also those that are gone.");
        PlainCobol x = hundred();
        due.is("the first", x.segment(0, 0), 1);
        due.is("the last", x.segment(99, 0), 100);
        x.act(1, INSERT, 0, 101);
        commits(x, 1);
        due.is("no 101st", x.count(4), 100);
        x.act(1, DELETE, 1, 0);
        x.act(1, DELETE, 100, 0);
        x.act(1, INSERT, 0, 101);
        commits(x, 3);
        due.is("two are gone, and still count", x.count(4), 98);
        due.is("the first", x.segment(0, 0), 2);
        due.is("the last", x.segment(97, 0), 99);
        due.is("second", x.second(), 98);
        PlainCobol y = new PlainCobol(1);
        for (int i = 1; i <= 24; i++) {
            y.act(1, INSERT, 0, i);
            y.act(1, DELETE, i, 0);
        }
        y.act(1, INSERT, 0, 25);
        commits(y, 49);
        numbers(y, 25);
    }

    private static void delete() {
        due.sentence("Terms", "3 DELETE: segment a and all below it go.");
        PlainCobol x = new PlainCobol(1);
        long[] above = {0, 1, 2, 3, 1, 0, 6, 0};
        for (long a : above) {
            x.act(1, INSERT, a, 5);
        }
        commits(x, 8);
        numbers(x, 1, 2, 3, 4, 5, 6, 7, 8);
        x.act(1, DELETE, 8, HIGH);
        commits(x, 1);
        numbers(x, 1, 2, 3, 4, 5, 6, 7);
        x.act(1, DELETE, 2, LOW);
        commits(x, 1);
        numbers(x, 1, 5, 6, 7);
        x.act(1, DELETE, 1, 0);
        commits(x, 1);
        numbers(x, 6, 7);
        x.act(1, DELETE, 7, 0);
        x.act(1, DELETE, 6, 0);
        commits(x, 2);
        numbers(x);
        PlainCobol y = new PlainCobol(1);
        for (int i = 0; i < 100; i++) {
            y.act(i / 50 + 1, INSERT, i, i);
        }
        commits(y, 50);
        due.is("commit(2)", y.commit(2), 50);
        due.is("99 are above the last", y.segment(99, 2), 99);
        y.act(1, DELETE, 2, 0);
        commits(y, 1);
        numbers(y, 1);
    }

    private static void sign() {
        due.sentence("Terms", "4 SIGN: place a has the sign b, 32 .. 126.");
        PlainCobol x = new PlainCobol(1);
        long[] wrong = {31, 127, 0, -32, -1, 256 + 65, (1L << 32) + 65, LOW, HIGH};
        for (long sign : wrong) {
            due.is("sign " + sign, x.act(1, SIGN, 101, sign), -4);
        }
        int[] right = {32, 33, 125, 126};
        for (int sign : right) {
            due.is("sign " + sign, x.act(1, SIGN, 101, sign), 1);
            commits(x, 1);
            due.is("it stands", x.screen(1, 1), sign);
            due.is("a blank too", x.second(), 1);
        }
    }

    /** An act that does nothing changes nothing but the row of acts. */
    private static void doesNothing(PlainCobol x, int kind, long a) {
        int acts = x.count(2);
        int records = x.count(3);
        int segments = x.count(4);
        int second = x.second();
        due.is("act(1, " + kind + ", " + a + ", 5)", x.act(1, kind, a, 5), 1);
        commits(x, 1);
        due.is("it counts as done", x.count(2), acts + 1);
        due.is("records", x.count(3), records);
        due.is("segments", x.count(4), segments);
        due.is("second", x.second(), second);
        due.is("not refused", x.refused(), 0);
    }

    private static void dropOfNone() {
        due.sentence("Terms", "A DROP of none,");
        PlainCobol x = new PlainCobol(1);
        doesNothing(x, DROP, 0);
        doesNothing(x, DROP, 3999999);
        x.act(1, PUT, 1000005, 7);
        commits(x, 1);
        long[] none = {1000004, 1000006, 5, 2000005, 0, 3999999};
        for (long a : none) {
            doesNothing(x, DROP, a);
            due.is("the other one stays", x.record(1, 0, 1), 7);
        }
        x.act(1, DROP, 1000005, 0);
        commits(x, 1);
        doesNothing(x, DROP, 1000005);
    }

    private static void insertBelowNone() {
        due.sentence("Terms", "an INSERT below one that isn't there,");
        PlainCobol x = new PlainCobol(1);
        doesNothing(x, INSERT, 1);
        doesNothing(x, INSERT, 100);
        x.act(1, INSERT, 0, 5);
        x.act(1, INSERT, 1, 6);
        commits(x, 2);
        numbers(x, 1, 2);
        doesNothing(x, INSERT, 3);
        doesNothing(x, INSERT, 100);
        x.act(1, DELETE, 1, 0);
        commits(x, 1);
        doesNothing(x, INSERT, 1);
        doesNothing(x, INSERT, 2);
        x.act(1, INSERT, 0, 7);
        commits(x, 1);
        numbers(x, 3);
    }

    private static void insertOfOneTooMany() {
        due.sentence("Terms", "or a 101st one,");
        PlainCobol x = hundred();
        doesNothing(x, INSERT, 0);
        doesNothing(x, INSERT, 1);
        doesNothing(x, INSERT, 100);
        x.act(1, DELETE, 50, 0);
        commits(x, 1);
        doesNothing(x, INSERT, 0);
        doesNothing(x, INSERT, 49);
        doesNothing(x, INSERT, 50);
        due.is("the last one's number", x.segment(98, 0), 100);
    }

    private static void deleteOfNone() {
        due.sentence("Terms", "a DELETE of one that isn't there does nothing (an INSERT takes no number then), "
            + "but counts as done.");
        PlainCobol x = new PlainCobol(1);
        doesNothing(x, DELETE, 1);
        doesNothing(x, DELETE, 100);
        x.act(1, INSERT, 0, 5);
        x.act(1, INSERT, 1, 6);
        x.act(1, INSERT, 2, 7);
        commits(x, 3);
        doesNothing(x, DELETE, 4);
        x.act(1, DELETE, 2, 0);
        commits(x, 1);
        doesNothing(x, DELETE, 2);
        doesNothing(x, DELETE, 3);
        numbers(x, 1);
        // Neither number is taken: the next one that comes is 4.
        doesNothing(x, INSERT, 2);
        doesNothing(x, INSERT, 4);
        x.act(1, INSERT, 1, 8);
        commits(x, 1);
        numbers(x, 1, 4);
    }

    private static void committingInOrder() {
        due.sentence("Terms", "COMMITTING a unit: its acts are done in their order,");
        PlainCobol x = new PlainCobol(1);
        x.act(1, PUT, 5, 1);
        x.act(1, PUT, 5, 2);
        x.act(1, DROP, 6, 0);
        x.act(1, PUT, 6, 3);
        x.act(1, PUT, 7, 4);
        x.act(1, DROP, 7, 0);
        x.act(1, INSERT, 1, 1);
        x.act(1, INSERT, 0, 2);
        x.act(1, INSERT, 1, 3);
        x.act(1, DELETE, 2, 0);
        x.act(1, INSERT, 2, 4);
        x.act(1, SIGN, 101, 65);
        x.act(1, SIGN, 101, 66);
        commits(x, 13);
        due.is("records", x.count(3), 2);
        due.is("the later value", x.record(0, 0, 1), 2);
        due.is("dropped, then put", x.record(0, 1, 0), 6);
        due.is("segments", x.count(4), 1);
        due.is("inserted once it could be", x.segment(0, 3), 2);
        due.is("the later sign", x.screen(1, 1), 66);
        due.is("second", x.second(), 4);
    }

    private static void behindAllOthers() {
        due.sentence("Terms", "and stand behind all others in the ROW of acts");
        PlainCobol x = new PlainCobol(9);
        x.act(1, PUT, 5, 1);
        x.act(8, PUT, 5, 8);
        x.act(1, SIGN, 101, 65);
        x.act(8, SIGN, 101, 66);
        due.is("commit(8)", x.commit(8), 2);
        due.is("acts", x.count(2), 2);
        commits(x, 2);
        due.is("acts", x.count(2), 4);
        due.is("the unit that came last counts", x.record(0, 0, 1), 1);
        due.is("the unit that came last counts", x.screen(1, 1), 65);
        due.is("second", x.second(), 2);
        x.cell(1, 5);
        x.node(10, 1, 1);
        x.act(1, PUT, 5, 9);
        due.is("a run between", x.run(1), 1);
        due.is("its value", x.record(0, 0, 1), 5);
        commits(x, 1);
        due.is("the unit's value", x.record(0, 0, 1), 9);
        due.is("second", x.second(), 2);
    }

    private static void atMostThousand() {
        due.sentence("Terms", "(at most 1000).");
        int[] acts = {950, 951, 999, 1000};
        for (int before : acts) {
            PlainCobol x = Made.filled(before);
            for (int i = 1; i <= 50; i++) {
                x.act(1, SIGN, 100 + i, 65);
            }
            due.is("50 behind " + before, x.commit(1), before == 950 ? 50 : PlainCobol.NONE);
            due.is("acts", x.count(2), before == 950 ? 1000 : before);
            due.is("second", x.second(), before == 950 ? 1000 : before);
        }
    }

    private static void oneMoreAct() {
        due.sentence("Promise 8", "One more act of a unit: how many are not committed");
        PlainCobol x = new PlainCobol(1);
        for (int i = 1; i <= 8; i++) {
            for (int unit = i; unit <= 8; unit++) {
                due.is("act " + i + " of unit " + unit, x.act(unit, i % 2 == 0 ? PUT : SIGN, 101, 65), i);
            }
        }
        due.is("one that is refused", x.act(8, SIGN, 101, 127), -4);
        due.is("does not count", x.act(8, SIGN, 101, 126), 9);
        for (int unit = 1; unit <= 8; unit++) {
            due.is("commit(" + unit + ")", x.commit(unit), unit == 8 ? 9 : unit);
            due.is("the count begins anew", x.act(unit, PUT, 1, 1), 1);
        }
    }

    private static void noSuchUnitOrKind() {
        due.sentence("Promise 8", "-2 no such unit (1 .. 8) or kind");
        PlainCobol x = new PlainCobol(1);
        int[] units = {0, 9, -1, -8, Integer.MIN_VALUE, Integer.MAX_VALUE};
        for (int unit : units) {
            due.is("unit " + unit, x.act(unit, PUT, 5, 5), -2);
        }
        int[] kinds = {-1, 5, -4, 256, Integer.MIN_VALUE, Integer.MAX_VALUE};
        for (int kind : kinds) {
            due.is("kind " + kind, x.act(1, kind, 5, 50), -2);
        }
        due.is("refused", x.refused(), units.length + kinds.length);
        due.is("unit 1", x.act(1, PUT, 5, 5), 1);
        due.is("unit 8", x.act(8, PUT, 5, 5), 1);
        due.is("kind 4", x.act(1, SIGN, 101, 50), 2);
    }

    private static void outside(int kind, long b, long... wrong) {
        PlainCobol x = new PlainCobol(1);
        for (long a : wrong) {
            due.is("act(1, " + kind + ", " + a + ", " + b + ")", x.act(1, kind, a, b), -4);
        }
        due.is("refused", x.refused(), wrong.length);
        commits(x, 0);
    }

    private static void inside(int kind, long b, long... right) {
        PlainCobol x = new PlainCobol(1);
        for (int i = 0; i < right.length; i++) {
            due.is("act(1, " + kind + ", " + right[i] + ", " + b + ")", x.act(1, kind, right[i], b), i + 1);
        }
        commits(x, right.length);
    }

    private static void numberOutside() {
        due.sentence("Promise 8", "-4 a or b outside;");
        long wrap = 1L << 32;
        outside(PUT, 5, -1, 4000000, LOW, HIGH, wrap, wrap + 5, -wrap);
        outside(DROP, 5, -1, 4000000, LOW, HIGH, wrap, wrap + 5, -wrap);
        outside(SIGN, 65, 0, 1, 80, 100, 181, 200, 2400, 2481, 2501, -101, LOW, HIGH, wrap + 101, 101 - wrap);
        outside(SIGN, 31, 101, 2480);
        outside(SIGN, 127, 101, 2480);
        outside(SIGN, wrap + 65, 101, 2480);
        outside(SIGN, LOW, 101, 2480);
        outside(SIGN, HIGH, 101, 2480);
        long[] anyB = {LOW, -1, 0, 127, HIGH};
        for (long b : anyB) {
            inside(PUT, b, 0, 3999999, 999999, 1000000);
            inside(DROP, b, 0, 3999999, 999999, 1000000);
            inside(INSERT, b, 0, 1, 100);
            inside(DELETE, b, 1, 100);
        }
        inside(SIGN, 32, 101, 180, 2401, 2480);
        inside(SIGN, 126, 101, 180, 2401, 2480);
    }

    private static void noRoomInTheUnit() {
        due.sentence("Promise 8", "NONE.");
        PlainCobol x = new PlainCobol(1);
        for (int i = 1; i <= 50; i++) {
            due.is("act " + i, x.act(3, SIGN, 101, 65), i);
        }
        due.is("51st PUT", x.act(3, PUT, 5, 5), PlainCobol.NONE);
        due.is("51st DROP", x.act(3, DROP, 5, 5), PlainCobol.NONE);
        due.is("51st INSERT", x.act(3, INSERT, 0, 5), PlainCobol.NONE);
        due.is("51st DELETE", x.act(3, DELETE, 1, 5), PlainCobol.NONE);
        due.is("51st SIGN", x.act(3, SIGN, 101, 66), PlainCobol.NONE);
        due.is("refused", x.refused(), 5);
        due.is("commit(3)", x.commit(3), 50);
        due.is("the sign of the first 50", x.screen(1, 1), 65);
    }

    private static void segmentsAreLookedForLater() {
        due.sentence("Promise 8", "(Segments are looked for when it is done: a is 0 .. 100, for DELETE 1 .. 100.)");
        long wrap = 1L << 32;
        outside(INSERT, 5, -1, 101, LOW, HIGH, wrap, wrap + 1);
        outside(DELETE, 5, 0, -1, 101, LOW, HIGH, wrap, wrap + 1);
        PlainCobol x = new PlainCobol(1);
        due.is("below one that is not there yet", x.act(2, INSERT, 1, 7), 1);
        due.is("of one that is not there yet", x.act(3, DELETE, 2, 0), 1);
        due.is("the first", x.act(1, INSERT, 0, 6), 1);
        commits(x, 1);
        due.is("commit(2)", x.commit(2), 1);
        numbers(x, 1, 2);
        due.is("commit(3)", x.commit(3), 1);
        numbers(x, 1);
    }

    private static void committed() {
        due.sentence("Promise 9", "A unit (1 .. 8) is committed: how many acts that were");
        for (int unit = 1; unit <= 8; unit++) {
            PlainCobol x = new PlainCobol(1);
            due.is("an empty unit", x.commit(unit), 0);
            x.act(unit, PUT, 5, 5);
            due.is("one act", x.commit(unit), 1);
            due.is("no more then", x.commit(unit), 0);
            for (int i = 0; i < 50; i++) {
                x.act(unit, DROP, 5, 5);
            }
            due.is("acts that do nothing count too", x.commit(unit), 50);
            due.is("acts", x.count(2), 51);
        }
    }

    private static void noSuchUnitToCommit() {
        due.sentence("Promise 9", "-2;");
        PlainCobol x = Made.filled(3);
        int[] units = {0, 9, -1, -8, Integer.MIN_VALUE, Integer.MAX_VALUE};
        for (int unit : units) {
            due.is("commit(" + unit + ")", x.commit(unit), -2);
        }
        due.is("refused", x.refused(), units.length);
        due.is("acts", x.count(2), 3);
    }

    private static void noRoomInTheRow() {
        due.sentence("Promise 9", "NONE when the row of acts has no room (they stay).");
        PlainCobol x = Made.filled(998);
        for (int i = 1; i <= 3; i++) {
            x.act(1, SIGN, 100 + i, 64 + i);
            x.act(2, INSERT, 0, i);
        }
        due.is("three have no room", x.commit(1), PlainCobol.NONE);
        due.is("three have no room", x.commit(2), PlainCobol.NONE);
        due.is("acts", x.count(2), 998);
        due.is("none of them is done", x.screen(1, 1), 32);
        due.is("none of them is done", x.count(4), 0);
        due.is("refused", x.refused(), 2);
        due.is("they stay", x.act(1, SIGN, 104, 68), 4);
        x.act(3, PUT, 3000000, 1);
        x.act(3, PUT, 3000001, 1);
        due.is("two have room", x.commit(3), 2);
        due.is("acts", x.count(2), 1000);
        due.is("none is always as many as have room", x.commit(3), 0);
        due.is("one has no room", x.act(3, PUT, 1, 1), 1);
        due.is("one has no room", x.commit(3), PlainCobol.NONE);
        due.is("refused", x.refused(), 3);
        due.is("second", x.second(), 1000);
    }
}

import java.util.function.Consumer;
import java.util.function.Supplier;

/** The sentences on refusals, and that an object has 512 calls. */
public final class RefusalEdgesTest {
    private static final Due due = new Due();
    private static final int NONE = PlainCobol.NONE;

    public static void main(String[] args) {
        noSuch();
        numberOutside();
        noRoom();
        firstOfThese();
        theseAreCounted();
        raisedOrNotTried();
        changesNothing();
        afterItsCalls();
        due.finish();
    }

    /** One of each thing, acts that wait, and a run behind it. */
    private static PlainCobol some() {
        PlainCobol x = new PlainCobol(9);
        x.cell(3, -5);
        x.cell(3, 7);
        x.node(10, 2, 1);
        x.node(9, 1, 101);
        x.node(6, 1, 2);
        x.run(3);
        x.act(2, 0, 1000007, 70);
        x.act(2, 1, 7, 0);
        x.act(2, 2, 1, 71);
        x.act(2, 3, 2, 0);
        x.act(2, 4, 2480, 72);
        x.act(1, 2, 0, 5);
        x.act(1, 0, 2000000, -5);
        x.commit(1);
        x.act(3, 2, 1, 6);
        return x;
    }

    /** All is full: cells, nodes, unit 1, and, but for two, the row of acts. */
    private static PlainCobol full() {
        PlainCobol x = Made.filled(998);
        for (int i = 4; i <= 60; i++) {
            x.cell(2, i);
        }
        for (int i = 5; i <= 200; i++) {
            x.node(0, 0, 0);
        }
        for (int i = 0; i < 50; i++) {
            x.act(1, 4, 101 + i, 65);
        }
        return x;
    }

    private static void noSuch() {
        due.sentence("Terms", "Refusals: -2 no such cell, node, unit, kind of nodes or acts;");
        PlainCobol x = some();
        due.is("cell", x.node(1, 1, 3), -2);
        due.is("cell", x.node(9, 0, 101), -2);
        due.is("node", x.node(6, 1, 4), -2);
        due.is("node", x.run(4), -2);
        due.is("node", x.run(0), -2);
        due.is("unit", x.act(0, 0, 0, 0), -2);
        due.is("unit", x.act(9, 0, 0, 0), -2);
        due.is("unit", x.commit(0), -2);
        due.is("unit", x.commit(9), -2);
        due.is("kind of nodes", x.node(13, 1, 1), -2);
        due.is("kind of nodes", x.node(-1, 1, 1), -2);
        due.is("kind of acts", x.act(1, 5, 1, 1), -2);
        due.is("kind of acts", x.act(1, -1, 1, 1), -2);
        due.is("refused", x.refused(), 13);
    }

    private static void numberOutside() {
        due.sentence("Terms", "-4 a number outside;");
        PlainCobol x = some();
        due.is("size", x.cell(0, 1), -4);
        due.is("size", x.cell(19, 1), -4);
        due.is("place", x.node(9, 1, 100), -4);
        due.is("place", x.node(9, 1, 2481), -4);
        due.is("record", x.act(1, 0, -1, 1), -4);
        due.is("record", x.act(1, 1, 4000000, 1), -4);
        due.is("segment", x.act(1, 2, 101, 1), -4);
        due.is("segment", x.act(1, 3, 0, 1), -4);
        due.is("place", x.act(1, 4, 181, 65), -4);
        due.is("sign", x.act(1, 4, 101, 127), -4);
        due.is("refused", x.refused(), 10);
    }

    private static void noRoom() {
        due.sentence("Terms", "NONE no room;");
        PlainCobol x = full();
        due.is("61st cell", x.cell(1, 1), NONE);
        due.is("201st node", x.node(0, 0, 0), NONE);
        due.is("51st act", x.act(1, 0, 0, 0), NONE);
        due.is("row of acts", x.commit(1), NONE);
        due.is("refused", x.refused(), 4);
        due.is("NONE", NONE, -1);
    }

    private static void firstOfThese() {
        due.sentence("Terms", "the first of these");
        PlainCobol x = full();
        due.is("-4 ahead of NONE: cell", x.cell(0, 1), -4);
        due.is("-4 ahead of NONE: cell", x.cell(19, 1), -4);
        due.is("-2 ahead of -4 and NONE: no cell", x.node(9, 61, 100), -2);
        due.is("-2 ahead of NONE: no cell", x.node(1, 61, 1), -2);
        due.is("-2 ahead of NONE: no cell", x.node(1, 1, 61), -2);
        due.is("-2 ahead of NONE: no node", x.node(6, 1, 201), -2);
        due.is("-2 ahead of NONE: no kind", x.node(13, 1, 1), -2);
        due.is("-4 ahead of NONE: place", x.node(9, 1, 100), -4);
        due.is("-2 ahead of -4: no unit", x.act(0, 4, 0, 0), -2);
        due.is("-2 ahead of -4: no unit", x.act(9, 0, -1, 0), -2);
        due.is("-2 ahead of -4 and NONE: no kind", x.act(1, 5, -1, 0), -2);
        due.is("-4 ahead of NONE: record", x.act(1, 0, 4000000, 0), -4);
        due.is("-4 ahead of NONE: record", x.act(1, 1, -1, 0), -4);
        due.is("-4 ahead of NONE: segment", x.act(1, 2, 101, 0), -4);
        due.is("-4 ahead of NONE: segment", x.act(1, 3, 0, 0), -4);
        due.is("-4 ahead of NONE: place", x.act(1, 4, 100, 65), -4);
        due.is("-4 ahead of NONE: sign", x.act(1, 4, 101, 31), -4);
        due.is("-2 ahead of NONE: no unit", x.commit(9), -2);
        PlainCobol y = new PlainCobol(9);
        due.is("-2 ahead of -4: no cell", y.node(9, 1, 0), -2);
        due.is("-2 ahead of -4: no kind", y.act(1, 5, Long.MIN_VALUE, 0), -2);
    }

    private static void theseAreCounted() {
        due.sentence("Terms", "(by cell, node, run, act, commit; these are counted;");
        PlainCobol x = some();
        Runnable[] calls = {() -> x.cell(0, 0), () -> x.node(13, 0, 0), () -> x.run(0),
            () -> x.act(0, 0, 0, 0), () -> x.commit(0), () -> x.node(9, 1, 0), () -> x.act(1, 4, 0, 0)};
        for (int i = 0; i < calls.length; i++) {
            calls[i].run();
            due.is("refused behind call " + i, x.refused(), i + 1);
        }
        Runnable[] others = {() -> x.number(0), () -> x.real(0), () -> x.record(4, 0, 0),
            () -> x.record(0, -1, 0), () -> x.segment(-1, 0), () -> x.segment(0, 5), () -> x.screen(0, 0),
            () -> x.count(6), () -> x.second(), () -> x.refused(), () -> due.at(x, 0, 0, -1),
            () -> x.cell(1, 0), () -> x.node(0, 0, 0), () -> x.run(1), () -> x.act(1, 0, 0, 0),
            () -> x.commit(1), () -> x.commit(8)};
        for (int i = 0; i < others.length; i++) {
            others[i].run();
            due.is("refused behind other " + i, x.refused(), calls.length);
        }
        PlainCobol y = full();
        y.cell(1, 1);
        y.node(0, 0, 0);
        y.act(1, 0, 0, 0);
        y.commit(1);
        due.is("no room is counted too", y.refused(), 4);
    }

    private static void raisedOrNotTried() {
        due.sentence("Terms", "a run that raised or was not tried isn't refused).");
        PlainCobol x = new PlainCobol(2);
        x.node(11, 0, 0);
        x.node(6, 1, 1);
        x.node(0, 0, 0);
        x.node(6, 3, 3);
        due.is("raised", x.run(1), 2);
        due.is("raised", x.run(2), 2);
        due.is("not tried", x.run(4), 0);
        due.is("refused", x.refused(), 0);
        PlainCobol y = Made.filled(1000);
        y.cell(1, 5);
        y.node(10, 4, 4);
        due.is("no room in the row", y.run(5), 2);
        due.is("refused", y.refused(), 0);
    }

    private static void isRefused(Supplier<PlainCobol> maker, int i, Consumer<PlainCobol> call) {
        Supplier<PlainCobol> with = () -> {
            PlainCobol x = maker.get();
            int before = x.refused();
            call.accept(x);
            due.is("refused by call " + i, x.refused(), before + 1);
            return x;
        };
        due.holds("call " + i + " changes nothing:", Seen.same(maker, with));
    }

    private static void changesNothing() {
        due.sentence("Terms", "What is refused changes nothing.");
        Supplier<PlainCobol> some = RefusalEdgesTest::some;
        isRefused(some, 1, x -> x.cell(0, 5));
        isRefused(some, 2, x -> x.cell(19, 5));
        isRefused(some, 3, x -> x.node(13, 1, 1));
        isRefused(some, 4, x -> x.node(2, 1, 3));
        isRefused(some, 5, x -> x.node(6, 1, 4));
        isRefused(some, 6, x -> x.node(9, 1, 181));
        isRefused(some, 7, x -> x.run(0));
        isRefused(some, 8, x -> x.run(4));
        isRefused(some, 9, x -> x.act(0, 0, 5, 5));
        isRefused(some, 10, x -> x.act(2, 5, 5, 5));
        isRefused(some, 11, x -> x.act(2, 0, 4000000, 5));
        isRefused(some, 12, x -> x.act(2, 4, 101, 127));
        isRefused(some, 13, x -> x.act(2, 3, 0, 5));
        isRefused(some, 14, x -> x.commit(0));
        isRefused(some, 15, x -> x.commit(9));
        Supplier<PlainCobol> full = RefusalEdgesTest::full;
        isRefused(full, 16, x -> x.cell(2, 5));
        isRefused(full, 17, x -> x.node(0, 0, 0));
        isRefused(full, 18, x -> x.act(1, 4, 101, 66));
        isRefused(full, 19, x -> x.commit(1));
    }

    /** What later calls answer is free, but they answer: nothing throws and nothing grows. */
    private static void afterItsCalls() {
        due.sentence("What it is", "An object is used for at most 512 calls after it has been made; "
            + "what later calls answer is free.");
        PlainCobol x = some();
        for (int i = 0; i < 20000; i++) {
            x.cell(18, i);
            x.node(6, 1, 2);
            x.run(3);
            x.act(i % 8 + 1, i % 5, 101 + i % 70, 65);
            x.commit(i % 8 + 1);
            x.second();
        }
        due.holds("cells", x.count(0) <= 60);
        due.holds("nodes", x.count(1) <= 200);
        due.holds("acts", x.count(2) <= 1000);
        due.holds("segments", x.count(4) <= 100);
    }
}

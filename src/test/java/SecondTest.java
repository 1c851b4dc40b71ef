import java.lang.reflect.Field;

/** Promise 10: second. */
public final class SecondTest {
    private static final Due due = new Due();

    public static void main(String[] args) throws ReflectiveOperationException {
        countsAllRows();
        asksTheRowAlone();
        due.finish();
    }

    private static PlainCobol house() {
        PlainCobol x = new PlainCobol(100);
        for (int i = 0; i < 10; i++) {
            x.act(1, 0, 1000000 * (i % 4) + 50 - i, i);
            x.act(1, 2, i / 2, 100 + i);
            x.act(1, 4, 101 + i, 65 + i);
        }
        x.act(1, 4, 105, 32);
        x.act(1, 1, 50, 0);
        x.act(1, 0, 1000049, -1);
        x.act(1, 3, 4, 0);
        x.commit(1);
        return x;
    }

    private static void countsAllRows() {
        PlainCobol x = house();
        due.is("records", x.count(3), 9);
        due.is("segments", x.count(4), 7);
        due.is("second", x.second(), 9 + 7 + 10);
        due.is("second changes nothing", x.second(), 26);
        x.act(2, 0, 50, 1);
        due.is("what is not committed is not known", x.second(), 26);
        x.commit(2);
        due.is("one record more", x.second(), 27);
        x.act(2, 1, 50, 1);
        x.act(2, 1, 50, 1);
        x.commit(2);
        due.is("and gone", x.second(), 26);
        x.cell(3, 123);
        x.node(9, 1, 180);
        x.run(1);
        due.is("one sign more", x.second(), 27);
    }

    private static Object part(Object of, String name) throws ReflectiveOperationException {
        Field field = of.getClass().getDeclaredField(name);
        field.setAccessible(true);
        return field.get(of);
    }

    /** The plain side is spoilt from outside: what is no longer alike must not be counted. */
    private static void asksTheRowAlone() throws ReflectiveOperationException {
        PlainCobol x = house();
        Object files = part(x, "files");
        ((long[]) part(files, "values"))[0]++;
        due.is("one value", x.second(), 25);
        ((int[]) part(files, "keys"))[1]++;
        due.is("one key", x.second(), 24);
        Object segments = part(x, "segments");
        ((int[]) part(segments, "order"))[0] = 9;
        due.is("one segment's place", x.second(), 23);
        ((long[]) part(segments, "values"))[2]++;
        due.is("one segment's value", x.second(), 22);
        ((byte[]) part(part(x, "signs"), "signs"))[0]++;
        due.is("one sign", x.second(), 21);
    }
}

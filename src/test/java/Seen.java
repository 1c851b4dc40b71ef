import java.util.ArrayList;
import java.util.Arrays;
import java.util.List;
import java.util.function.Supplier;
import java.util.function.ToLongFunction;

/**
 * All that can be seen of an object but its refusals. An object has 512 calls alone, so each has few
 * looks at it, and the next looks go at another one that is made by the same calls.
 */
final class Seen {
    private static final int LOOKS = 100;
    private static final int THROWN = -1;
    private static final List<ToLongFunction<PlainCobol>> ALL = allLooks();

    private Seen() { }

    static boolean same(Supplier<PlainCobol> one, Supplier<PlainCobol> other) {
        return Arrays.equals(of(one), of(other)) && Arrays.equals(of(committed(one)), of(committed(other)));
    }

    private static long[] of(Supplier<PlainCobol> maker) {
        long[] seen = new long[ALL.size()];
        PlainCobol x = null;
        for (int i = 0; i < seen.length; i++) {
            x = i % LOOKS == 0 ? maker.get() : x;
            seen[i] = ALL.get(i).applyAsLong(x);
        }
        return seen;
    }

    /** What waits in the units can be seen by committing them. */
    private static Supplier<PlainCobol> committed(Supplier<PlainCobol> maker) {
        return () -> {
            PlainCobol x = maker.get();
            for (int unit = 1; unit <= 8; unit++) {
                x.commit(unit);
            }
            return x;
        };
    }

    private static List<ToLongFunction<PlainCobol>> allLooks() {
        List<ToLongFunction<PlainCobol>> looks = new ArrayList<>();
        looks.add(PlainCobol::second);
        for (int i = 0; i <= 5; i++) {
            int what = i;
            looks.add(x -> x.count(what));
        }
        for (int i = 0; i <= 61; i++) {
            int cell = i;
            looks.add(x -> x.number(cell));
            looks.add(x -> Double.doubleToRawLongBits(x.real(cell)));
            for (int j = 0; j <= 18; j++) {
                int at = j;
                looks.add(x -> byteOf(x, cell, at));
            }
        }
        for (int i = 0; i < 4 * 12; i++) {
            int file = i / 12;
            int place = i % 12;
            for (int j = 0; j <= 2; j++) {
                int what = j;
                looks.add(x -> x.record(file, place, what));
            }
        }
        for (int i = 0; i <= 100; i++) {
            int place = i;
            for (int j = 0; j <= 4; j++) {
                int what = j;
                looks.add(x -> x.segment(place, what));
            }
        }
        for (int i = 0; i < 24 * 80; i++) {
            int row = i / 80 + 1;
            int column = i % 80 + 1;
            looks.add(x -> x.screen(row, column));
        }
        return looks;
    }

    private static long byteOf(PlainCobol x, int cell, int i) {
        try {
            return x.at(cell, i);
        } catch (ArrayIndexOutOfBoundsException e) {
            return THROWN;
        }
    }
}

import java.util.ArrayList;
import java.util.List;

/** Holds answers against those that are due; a test ends by calling finish. */
final class Due {
    private final List<String> wrong = new ArrayList<>();
    private int checked;

    void is(String call, long got, long want) {
        checked++;
        if (got != want) {
            wrong.add(call + " answered " + got + ", due is " + want);
        }
    }

    void isReal(String call, double got, double want) {
        checked++;
        if (Double.doubleToRawLongBits(got) != Double.doubleToRawLongBits(want)) {
            wrong.add(call + " answered " + got + ", due is " + want);
        }
    }

    void holds(String what, boolean holds) {
        checked++;
        if (!holds) {
            wrong.add(what + " does not hold");
        }
    }

    /** at(cell, i) must answer want, or throw where want is below 0. */
    void at(PlainCobol x, int cell, int i, int want) {
        int got;
        try {
            got = x.at(cell, i);
        } catch (ArrayIndexOutOfBoundsException e) {
            // The machine's own exception has a text that tells the index.
            got = e.getMessage() == null ? -1 : -2;
        }
        is("at(" + cell + ", " + i + ")", got, want);
    }

    boolean hasWrong() {
        return !wrong.isEmpty();
    }

    void finish() {
        for (int i = 0; i < Math.min(wrong.size(), 20); i++) {
            System.out.println(wrong.get(i));
        }
        System.out.println(checked + " checked, " + wrong.size() + " wrong");
        if (checked == 0 || hasWrong()) {
            System.exit(1);
        }
    }
}

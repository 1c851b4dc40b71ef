import java.util.ArrayList;
import java.util.List;

/** Holds answers against those that are due; a test ends by calling finish. */
final class Due {
    private final List<String> wrong = new ArrayList<>();
    private String words = "";
    private int checked;
    private int checkedBefore;
    private int sentences;

    /** The checks from here on are those of a sentence of the document; SentencesTest reads these calls. */
    void sentence(String section, String sentence) {
        endSentence();
        sentences++;
        checkedBefore = checked;
        words = section + ", '" + sentence + "': ";
    }

    private void endSentence() {
        if (sentences > 0 && checked == checkedBefore) {
            wrong.add(words + "nothing is checked");
        }
    }

    void is(String call, long got, long want) {
        checked++;
        if (got != want) {
            wrong.add(words + call + " answered " + got + ", due is " + want);
        }
    }

    void isReal(String call, double got, double want) {
        checked++;
        if (Double.doubleToRawLongBits(got) != Double.doubleToRawLongBits(want)) {
            wrong.add(words + call + " answered " + got + ", due is " + want);
        }
    }

    void holds(String what, boolean holds) {
        checked++;
        if (!holds) {
            wrong.add(words + what + " does not hold");
        }
    }

    /** at(cell, i) must answer want, or throw where want is below 0. */
    void at(PlainCobol x, int cell, int i, int want) {
        int got;
        try {
            got = x.at(cell, i);
        } catch (ArrayIndexOutOfBoundsException e) {
            // The machine's own exception has a text that tells the index.
            got = e.getMessage() == null ? -1 : -2;
        }
        is("at(" + cell + ", " + i + ")", got, want);
    }

    /** The screen must show a text from a place on, in its row. */
    void shows(PlainCobol x, int row, int column, String text) {
        for (int i = 0; i < text.length(); i++) {
            is("screen(" + row + ", " + (column + i) + ")", x.screen(row, column + i), text.charAt(i));
        }
    }

    /** A run must end as told, with so many steps. */
    void runs(PlainCobol x, int root, int outcome, int steps) {
        is("run(" + root + ")", x.run(root), outcome);
        is("count(5) after run(" + root + ")", x.count(5), steps);
    }

    boolean hasWrong() {
        return !wrong.isEmpty();
    }

    void finish() {
        endSentence();
        for (int i = 0; i < Math.min(wrong.size(), 20); i++) {
            System.out.println(wrong.get(i));
        }
        String of = sentences > 0 ? " for " + sentences + " sentences" : "";
        System.out.println(checked + " checked" + of + ", " + wrong.size() + " wrong");
        if (checked == 0 || hasWrong()) {
            System.exit(1);
        }
    }
}

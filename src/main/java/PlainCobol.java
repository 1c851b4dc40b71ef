/**
 * The plain side of a house: programs are walked over cells of decimal digits; files, segments and
 * a screen stand as they come by units of acts that are committed; and a second writing answers
 * from the row of all committed acts alone.
 */
public final class PlainCobol {
    public static final int NONE = -1;

    private static final int NO_SUCH = -2;
    private static final int OUTSIDE = -4;

    private static final int MOST_STEPS = 5000;
    // A step is followed by at most one turn that is none (a loop's end), so no walk comes near this.
    private static final int MOST_TURNS = 1000000;
    private static final int MOST_CELLS = 60;
    private static final int MOST_DIGITS = 18;
    private static final int MOST_NODES = 200;
    private static final int MOST_SEGMENTS = 100;
    private static final int LAST_UNIT = 8;
    private static final int UNIT_ROOM = 50;
    private static final int WALK_ROOM = 1000;
    private static final int ROW_ROOM = 1000;

    private static final int FILES = 4;
    private static final int KEYS = 1000000;
    private static final int RECORDS = FILES * KEYS;
    private static final int ROWS = 24;
    private static final int COLUMNS = 80;
    private static final int PLACES = ROWS * COLUMNS;
    private static final int ROW_STRIDE = 100;
    private static final int WORD = 64;
    private static final int BLANK = 32;
    private static final int LAST_SIGN = 126;
    private static final int MINUS = 45;
    private static final int ZERO = 48;
    private static final int ZERO_BELOW = 112;

    private static final int NOTHING = 0;
    private static final int MOVE = 1;
    private static final int ADD = 2;
    private static final int SUBTRACT = 3;
    private static final int MULTIPLY = 4;
    private static final int DIVIDE = 5;
    private static final int ROW = 6;
    private static final int IF_NOT_ZERO = 7;
    private static final int LOOP = 8;
    private static final int DISPLAY = 9;
    private static final int STORE = 10;
    private static final int RAISE = 11;
    private static final int IF_BELOW = 12;

    private static final int PUT = 0;
    private static final int DROP = 1;
    private static final int INSERT = 2;
    private static final int DELETE = 3;
    private static final int SIGN = 4;

    private static final int NOT_TRIED = 0;
    private static final int ENDED = 1;
    private static final int RAISED = 2;

    private static final long[] POWERS = {
        1L, 10L, 100L, 1000L, 10000L, 100000L, 1000000L, 10000000L, 100000000L, 1000000000L,
        10000000000L, 100000000000L, 1000000000000L, 10000000000000L, 100000000000000L,
        1000000000000000L, 10000000000000000L, 100000000000000000L, 1000000000000000000L};

    private final Walker walker;
    private final Cells cells;
    private final Nodes nodes;
    private final Acts[] units = new Acts[LAST_UNIT + 1];
    private final Acts row = new Acts(ROW_ROOM);
    private final Files files = new Files();
    private final Segments segments = new Segments();
    private final Screen signs = new Screen();
    private final SecondRecords secondRecords = new SecondRecords();
    private final SecondSegments secondSegments = new SecondSegments();
    private final SecondScreen secondScreen = new SecondScreen();
    private int refusals;

    public PlainCobol(long steps) {
        walker = new Walker((int) Math.max(1L, Math.min(steps, MOST_STEPS)));
        cells = walker.cells;
        nodes = walker.nodes;
        units[0] = walker.unit;
        for (int unit = 1; unit <= LAST_UNIT; unit++) {
            units[unit] = new Acts(UNIT_ROOM);
        }
    }

    public int cell(int size, long v) {
        if (size < 1 || size > MOST_DIGITS) {
            return refuse(OUTSIDE);
        }
        if (cells.made >= MOST_CELLS) {
            return refuse(NONE);
        }
        return cells.make(size, v);
    }

    public int node(int kind, int a, int b) {
        if (lacksPart(kind, a, b)) {
            return refuse(NO_SUCH);
        }
        if (kind == DISPLAY && !isPlace(b)) {
            return refuse(OUTSIDE);
        }
        if (nodes.made >= MOST_NODES) {
            return refuse(NONE);
        }
        return nodes.make(kind, a, b);
    }

    public int run(int root) {
        if (!nodes.has(root)) {
            return refuse(NO_SUCH);
        }
        int outcome = walker.walk(root);
        Acts walked = units[0];
        if (outcome == ENDED && !row.hasRoomFor(walked.size)) {
            outcome = RAISED;
        }
        if (outcome == ENDED) {
            doAll(walked);
        }
        walked.size = 0;
        return outcome;
    }

    // The document names an exception for this call that LANGUAGE.md's rule 6 does not list.
    public byte at(int cell, int i) throws ArrayIndexOutOfBoundsException {
        if (!cells.has(cell) || i < 0 || i >= cells.sizes[cell]) {
            throw new ArrayIndexOutOfBoundsException();
        }
        boolean carriesSign = cells.values[cell] < 0 && i == cells.sizes[cell] - 1;
        return (byte) ((carriesSign ? ZERO_BELOW : ZERO) + cells.digit(cell, i));
    }

    public long number(int cell) {
        return cells.has(cell) ? cells.values[cell] : 0L;
    }

    public int record(int file, int i, int what) {
        if (file < 0 || file >= FILES) {
            return NONE;
        }
        int first = files.firstFrom(file * KEYS);
        int behind = files.firstFrom((file + 1) * KEYS);
        if (i < 0 || i >= behind - first) {
            return NONE;
        }
        switch (what) {
            case 0: return files.keys[first + i] - file * KEYS;
            case 1: return lowest(files.values[first + i]);
            case 2: return highest(files.values[first + i]);
            default: return NONE;
        }
    }

    public int act(int unit, int kind, long a, long b) {
        if (!isOpenUnit(unit) || kind < PUT || kind > SIGN) {
            return refuse(NO_SUCH);
        }
        if (!mayBeDone(kind, a, b)) {
            return refuse(OUTSIDE);
        }
        if (!units[unit].add(kind, (int) a, b)) {
            return refuse(NONE);
        }
        return units[unit].size;
    }

    public int commit(int unit) {
        if (!isOpenUnit(unit)) {
            return refuse(NO_SUCH);
        }
        Acts acts = units[unit];
        int done = acts.size;
        if (!row.hasRoomFor(done)) {
            return refuse(NONE);
        }
        doAll(acts);
        acts.size = 0;
        return done;
    }

    public int second() {
        return secondRecords.countSame(row, files)
            + secondSegments.countSame(row, segments)
            + secondScreen.countSame(row, signs);
    }

    public int segment(int i, int what) {
        if (i < 0 || i >= segments.there) {
            return NONE;
        }
        int number = segments.order[i];
        switch (what) {
            case 0: return number;
            case 1: return segments.above[number];
            case 2: return segments.depths[number];
            case 3: return lowest(segments.values[number]);
            case 4: return highest(segments.values[number]);
            default: return NONE;
        }
    }

    public int screen(int row, int column) {
        if (row < 1 || row > ROWS || column < 1 || column > COLUMNS) {
            return NONE;
        }
        int sign = signs.signs[placeIndex(row * ROW_STRIDE + column)];
        return sign == 0 ? BLANK : sign;
    }

    public double real(int cell) {
        return cells.has(cell) ? (double) cells.values[cell] / 100.0 : 0.0;
    }

    public int refused() {
        return refusals;
    }

    public int count(int what) {
        switch (what) {
            case 0: return cells.made;
            case 1: return nodes.made;
            case 2: return row.size;
            case 3: return files.held;
            case 4: return segments.there;
            case 5: return walker.steps;
            default: return NONE;
        }
    }

    private int refuse(int answer) {
        refusals++;
        return answer;
    }

    private boolean lacksPart(int kind, int a, int b) {
        switch (kind) {
            case NOTHING: case RAISE:
                return false;
            case MOVE: case ADD: case SUBTRACT: case MULTIPLY: case DIVIDE: case STORE:
                return !cells.has(a) || !cells.has(b);
            case ROW:
                return !nodes.has(a) || !nodes.has(b);
            case IF_NOT_ZERO: case LOOP: case IF_BELOW:
                return !cells.has(a) || !nodes.has(b);
            case DISPLAY:
                return !cells.has(a);
            default:
                return true;
        }
    }

    // Unit 0 is the walker's own: no caller adds to it or commits it.
    private static boolean isOpenUnit(int unit) {
        return unit >= 1 && unit <= LAST_UNIT;
    }

    private static boolean mayBeDone(int kind, long a, long b) {
        switch (kind) {
            case PUT: case DROP: return a >= 0 && a < RECORDS;
            case INSERT: return a >= 0 && a <= MOST_SEGMENTS;
            case DELETE: return a >= 1 && a <= MOST_SEGMENTS;
            case SIGN: return isPlace(a) && b >= BLANK && b <= LAST_SIGN;
            default: return false;
        }
    }

    private static boolean isPlace(long place) {
        long column = place % ROW_STRIDE;
        long line = place / ROW_STRIDE;
        return line >= 1 && line <= ROWS && column >= 1 && column <= COLUMNS;
    }

    // A true place's own index, 0 .. PLACES - 1; no other place is ever asked for.
    private static int placeIndex(int place) {
        return (place / ROW_STRIDE - 1) * COLUMNS + place % ROW_STRIDE - 1;
    }

    private static int lowest(long value) {
        return (int) value;
    }

    private static int highest(long value) {
        return (int) (value >> 32);
    }

    private void doAll(Acts acts) {
        for (int i = 0; i < acts.size; i++) {
            doOne(acts.kindOf(i), acts.targetOf(i), acts.values[i]);
            row.add(acts.kindOf(i), acts.targetOf(i), acts.values[i]);
        }
    }

    private void doOne(int kind, int target, long value) {
        switch (kind) {
            case PUT: files.put(target, value); break;
            case DROP: files.drop(target); break;
            case INSERT: segments.insert(target, value); break;
            case DELETE: segments.delete(target); break;
            case SIGN: signs.put(target, value); break;
            default: break;
        }
    }

    /** The cells by number; 0 is no cell's number. */
    private static final class Cells {
        final int[] sizes = new int[MOST_CELLS + 1];
        final long[] values = new long[MOST_CELLS + 1];
        final long[] kept = new long[MOST_CELLS + 1];
        int made;

        boolean has(int cell) {
            return cell >= 1 && cell <= made;
        }

        int make(int size, long value) {
            made++;
            sizes[made] = size;
            values[made] = value % POWERS[size];
            return made;
        }

        void move(int cell, long value) {
            values[cell] = value % POWERS[sizes[cell]];
        }

        long mostOf(int cell) {
            return POWERS[sizes[cell]] - 1;
        }

        int digit(int cell, int i) {
            return (int) (Math.abs(values[cell]) / POWERS[sizes[cell] - 1 - i] % 10);
        }

        void keepAll() {
            System.arraycopy(values, 0, kept, 0, values.length);
        }

        void bringBackAll() {
            System.arraycopy(kept, 0, values, 0, values.length);
        }
    }

    /** The nodes by number; a node's parts have lower numbers than itself. */
    private static final class Nodes {
        final int[] kinds = new int[MOST_NODES + 1];
        final int[] firsts = new int[MOST_NODES + 1];
        final int[] seconds = new int[MOST_NODES + 1];
        int made;

        boolean has(int node) {
            return node >= 1 && node <= made;
        }

        int make(int kind, int a, int b) {
            made++;
            kinds[made] = kind;
            firsts[made] = a;
            seconds[made] = b;
            return made;
        }
    }

    /** Acts in the order in which they came. */
    private static final class Acts {
        // Kind and target share one number, so that a new object stays small.
        final int[] codes;
        final long[] values;
        int size;

        Acts(int room) {
            int length = Math.max(0, room);
            codes = new int[length];
            values = new long[length];
        }

        boolean hasRoomFor(int more) {
            return more <= codes.length - size;
        }

        boolean add(int kind, int target, long value) {
            if (size >= codes.length) {
                return false;
            }
            codes[size] = kind * RECORDS + target;
            values[size] = value;
            size++;
            return true;
        }

        int kindOf(int i) {
            return codes[i] / RECORDS;
        }

        int targetOf(int i) {
            return codes[i] % RECORDS;
        }
    }

    /** Walks a program; what is still to be walked waits on a pile, so that no call nests. */
    private static final class Walker {
        final Cells cells = new Cells();
        final Nodes nodes = new Nodes();
        final Acts unit = new Acts(WALK_ROOM);
        final int limit;
        // A node to begin, or, below 0, a loop to go round. Parts have lower numbers than their
        // node and each nesting leaves one waiting at most, so a pile never outgrows the nodes.
        final int[] waiting = new int[MOST_NODES + 1];
        int height;
        int steps;

        Walker(int limit) {
            this.limit = limit;
        }

        int walk(int root) {
            steps = 0;
            height = 0;
            cells.keepAll();
            later(root);
            int outcome = ENDED;
            for (int turn = 0; turn < MOST_TURNS && height > 0 && outcome == ENDED; turn++) {
                height--;
                int next = waiting[height];
                outcome = next > 0 ? begin(next) : goRound(-next);
            }
            if (outcome == NOT_TRIED) {
                cells.bringBackAll();
            }
            return outcome;
        }

        private void later(int item) {
            if (height < waiting.length) {
                waiting[height] = item;
                height++;
            }
        }

        private boolean takeStep() {
            if (steps >= limit) {
                return false;
            }
            steps++;
            return true;
        }

        private int begin(int node) {
            if (!takeStep()) {
                return NOT_TRIED;
            }
            int a = nodes.firsts[node];
            int b = nodes.seconds[node];
            switch (nodes.kinds[node]) {
                case MOVE:
                    cells.move(b, cells.values[a]);
                    return ENDED;
                case ADD: return become(b, cells.values[b] + cells.values[a]);
                case SUBTRACT: return become(b, cells.values[b] - cells.values[a]);
                case MULTIPLY: return multiply(a, b);
                case DIVIDE: return divide(a, b);
                case ROW:
                    later(b);
                    later(a);
                    return ENDED;
                case IF_NOT_ZERO: return beginIf(cells.values[a] != 0, b);
                case IF_BELOW: return beginIf(cells.values[a] < 0, b);
                case LOOP:
                    later(-node);
                    return ENDED;
                case DISPLAY: return display(a, b);
                case STORE: return store(cells.values[a], cells.values[b]);
                case RAISE: return RAISED;
                default: return ENDED;
            }
        }

        private int goRound(int loop) {
            if (cells.values[nodes.firsts[loop]] == 0) {
                return ENDED;
            }
            if (!takeStep()) {
                return NOT_TRIED;
            }
            later(-loop);
            later(nodes.seconds[loop]);
            return ENDED;
        }

        private int beginIf(boolean holds, int node) {
            if (holds) {
                later(node);
            }
            return ENDED;
        }

        private int become(int cell, long value) {
            if (Math.abs(value) > cells.mostOf(cell)) {
                return RAISED;
            }
            cells.values[cell] = value;
            return ENDED;
        }

        private int multiply(int a, int b) {
            long by = cells.values[a];
            // The product itself may not fit a long, so it is held against the limit by division.
            if (by != 0 && Math.abs(cells.values[b]) > cells.mostOf(b) / Math.abs(by)) {
                return RAISED;
            }
            return become(b, cells.values[b] * by);
        }

        private int divide(int a, int b) {
            long by = cells.values[a];
            return by == 0 ? RAISED : become(b, cells.values[b] / by);
        }

        private int display(int cell, int place) {
            int ahead = cells.values[cell] < 0 ? 1 : 0;
            int space = COLUMNS + 1 - place % ROW_STRIDE;
            int length = Math.min(ahead + cells.sizes[cell], space);
            for (int i = 0; i < length; i++) {
                int sign = i < ahead ? MINUS : ZERO + cells.digit(cell, i - ahead);
                if (!unit.add(SIGN, place + i, sign)) {
                    return RAISED;
                }
            }
            return ENDED;
        }

        private int store(long key, long value) {
            if (key < 0 || key >= KEYS) {
                return RAISED;
            }
            return unit.add(PUT, (int) key, value) ? ENDED : RAISED;
        }
    }

    /** The records of all files by rising file and key. */
    private static final class Files {
        // Each record came by an act of the row, so there are never more of them than acts.
        final int[] keys = new int[ROW_ROOM];
        final long[] values = new long[ROW_ROOM];
        int held;

        // The place of the first record that is not below key.
        int firstFrom(int key) {
            int below = 0;
            for (int width = 512; width > 0; width /= 2) {
                if (below + width <= held && keys[below + width - 1] < key) {
                    below += width;
                }
            }
            return below;
        }

        void put(int key, long value) {
            int place = firstFrom(key);
            if (place < held && keys[place] == key) {
                values[place] = value;
                return;
            }
            if (held >= keys.length) {
                return;
            }
            System.arraycopy(keys, place, keys, place + 1, held - place);
            System.arraycopy(values, place, values, place + 1, held - place);
            keys[place] = key;
            values[place] = value;
            held++;
        }

        void drop(int key) {
            int place = firstFrom(key);
            if (place >= held || keys[place] != key) {
                return;
            }
            held--;
            System.arraycopy(keys, place + 1, keys, place, held - place);
            System.arraycopy(values, place + 1, values, place, held - place);
        }
    }

    /** The segments that are there, in their order: what is below one follows it without a gap. */
    private static final class Segments {
        final int[] order = new int[MOST_SEGMENTS];
        final int[] above = new int[MOST_SEGMENTS + 1];
        final int[] depths = new int[MOST_SEGMENTS + 1];
        final long[] values = new long[MOST_SEGMENTS + 1];
        int there;
        int made;

        void insert(int parent, long value) {
            int place = parent == 0 ? there : find(parent);
            if (made >= MOST_SEGMENTS || place == NONE) {
                return;
            }
            if (parent != 0) {
                place = endOf(place);
            }
            made++;
            above[made] = parent;
            depths[made] = parent == 0 ? 0 : depths[parent] + 1;
            values[made] = value;
            System.arraycopy(order, place, order, place + 1, there - place);
            order[place] = made;
            there++;
        }

        void delete(int number) {
            int place = find(number);
            if (place == NONE) {
                return;
            }
            int end = endOf(place);
            System.arraycopy(order, end, order, place, there - end);
            there -= end - place;
        }

        private int find(int number) {
            for (int place = 0; place < there; place++) {
                if (order[place] == number) {
                    return place;
                }
            }
            return NONE;
        }

        // The place behind the segment at a place and all below it.
        private int endOf(int place) {
            int depth = depths[order[place]];
            int end = place + 1;
            while (end < there && depths[order[end]] > depth) {
                end++;
            }
            return end;
        }
    }

    /** The signs that came, by the index of their place; 0 where none came. */
    private static final class Screen {
        final byte[] signs = new byte[PLACES];

        void put(int place, long sign) {
            signs[placeIndex(place)] = (byte) sign;
        }
    }

    /** The second writing's records: the latest act of each, where that is a PUT. */
    private static final class SecondRecords {
        // Acts by rising record and, of one record, as they came; each merging fills the other row.
        private int[] sorted = new int[ROW_ROOM];
        private int[] other = new int[ROW_ROOM];
        private int found;

        int countSame(Acts row, Files files) {
            gather(row);
            for (int width = 1; width < found; width *= 2) {
                mergeAll(row, width);
            }
            int records = 0;
            int same = 0;
            for (int i = 0; i < found; i++) {
                if (isLatest(row, i) && row.kindOf(sorted[i]) == PUT) {
                    same += isSame(row, sorted[i], files, records) ? 1 : 0;
                    records++;
                }
            }
            return same;
        }

        private void gather(Acts row) {
            found = 0;
            for (int i = 0; i < row.size; i++) {
                if (row.kindOf(i) == PUT || row.kindOf(i) == DROP) {
                    sorted[found] = i;
                    found++;
                }
            }
        }

        private void mergeAll(Acts row, int width) {
            for (int from = 0; from < found; from += 2 * width) {
                int middle = Math.min(from + width, found);
                merge(row, from, middle, Math.min(middle + width, found));
            }
            int[] merged = other;
            other = sorted;
            sorted = merged;
        }

        private void merge(Acts row, int from, int middle, int end) {
            int left = from;
            int right = middle;
            for (int to = from; to < end; to++) {
                boolean takesLeft = right >= end || left < middle
                    && row.targetOf(sorted[left]) <= row.targetOf(sorted[right]);
                other[to] = takesLeft ? sorted[left] : sorted[right];
                left += takesLeft ? 1 : 0;
                right += takesLeft ? 0 : 1;
            }
        }

        private boolean isLatest(Acts row, int i) {
            return i + 1 >= found || row.targetOf(sorted[i + 1]) != row.targetOf(sorted[i]);
        }

        private static boolean isSame(Acts row, int put, Files files, int place) {
            return place < files.held
                && files.keys[place] == row.targetOf(put)
                && files.values[place] == row.values[put];
        }
    }

    /** The second writing's segments, laid out by the room that each needs. */
    private static final class SecondSegments {
        private final int[] above = new int[MOST_SEGMENTS + 1];
        private final long[] values = new long[MOST_SEGMENTS + 1];
        private final boolean[] there = new boolean[MOST_SEGMENTS + 1];
        private final int[] depths = new int[MOST_SEGMENTS + 1];
        // How many places a segment takes with all below it.
        private final int[] spans = new int[MOST_SEGMENTS + 1];
        // The next free place below a segment; below 0 for those without one above.
        private final int[] nexts = new int[MOST_SEGMENTS + 1];
        private int made;

        int countSame(Acts row, Segments segments) {
            made = 0;
            for (int i = 0; i < row.size; i++) {
                if (row.kindOf(i) == INSERT) {
                    insert(row.targetOf(i), row.values[i]);
                } else if (row.kindOf(i) == DELETE) {
                    delete(row.targetOf(i));
                }
            }
            measure();
            return layOut(segments);
        }

        private boolean isThere(int number) {
            return number >= 1 && number <= made && there[number];
        }

        private void insert(int parent, long value) {
            if (made >= MOST_SEGMENTS || parent != 0 && !isThere(parent)) {
                return;
            }
            made++;
            above[made] = parent;
            values[made] = value;
            there[made] = true;
            depths[made] = parent == 0 ? 0 : depths[parent] + 1;
        }

        // Whoever is below another came later, so one way upwards through the numbers meets all.
        private void delete(int number) {
            if (!isThere(number)) {
                return;
            }
            there[number] = false;
            for (int later = number + 1; later <= made; later++) {
                if (above[later] != 0 && !there[above[later]]) {
                    there[later] = false;
                }
            }
        }

        private void measure() {
            for (int number = 0; number <= made; number++) {
                spans[number] = 1;
            }
            for (int number = made; number >= 1; number--) {
                if (there[number]) {
                    spans[above[number]] += spans[number];
                }
            }
        }

        private int layOut(Segments segments) {
            int same = 0;
            nexts[0] = 0;
            for (int number = 1; number <= made; number++) {
                if (there[number]) {
                    int place = nexts[above[number]];
                    nexts[above[number]] = place + spans[number];
                    nexts[number] = place + 1;
                    same += isSame(number, segments, place) ? 1 : 0;
                }
            }
            return same;
        }

        private boolean isSame(int number, Segments segments, int place) {
            return place < segments.there
                && segments.order[place] == number
                && segments.above[number] == above[number]
                && segments.depths[number] == depths[number]
                && segments.values[number] == values[number];
        }
    }

    /** The second writing's screen: the latest sign of each place. */
    private static final class SecondScreen {
        // A bit for each place: there are many places, and they are forgotten at every call.
        private final long[] met = new long[PLACES / WORD];

        int countSame(Acts row, Screen screen) {
            forgetAll();
            int same = 0;
            for (int i = row.size - 1; i >= 0; i--) {
                if (row.kindOf(i) == SIGN) {
                    int place = placeIndex(row.targetOf(i));
                    same += meets(place) && screen.signs[place] == row.values[i] ? 1 : 0;
                }
            }
            return same;
        }

        private void forgetAll() {
            for (int i = 0; i < met.length; i++) {
                met[i] = 0L;
            }
        }

        // Whether a place is met for the first time: then its sign is the latest one.
        private boolean meets(int place) {
            long bit = 1L << place % WORD;
            boolean isNew = (met[place / WORD] & bit) == 0;
            met[place / WORD] |= bit;
            return isNew;
        }
    }
}

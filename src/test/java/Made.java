/** Objects that several tests begin with. */
final class Made {
    static final long MOST = 999999999999999999L;

    private Made() { }

    /**
     * Node 4 stores -7 at the keys rounds - 1 .. 0, which brings as many acts, by 4 * rounds + 1 steps.
     * Cell 1 counts down to 0, cell 2 is 1, cell 3 is -7 in ten digits; node 1 takes 1 from cell 1.
     */
    static PlainCobol filler(long steps, int rounds) {
        PlainCobol x = new PlainCobol(steps);
        x.cell(4, rounds);
        x.cell(1, 1);
        x.cell(10, -7);
        x.node(3, 2, 1);
        x.node(10, 1, 3);
        x.node(6, 1, 2);
        x.node(8, 1, 3);
        return x;
    }

    /** The row of acts has so many. */
    static PlainCobol filled(int acts) {
        PlainCobol x = filler(5000, acts);
        x.run(4);
        return x;
    }

    /** Cell 1 in 18 digits, cell 2 in size digits, and node 1 of a kind over both. */
    static PlainCobol pair(int kind, long a, int size, long b) {
        PlainCobol x = new PlainCobol(100);
        x.cell(18, a);
        x.cell(size, b);
        x.node(kind, 1, 2);
        return x;
    }
}

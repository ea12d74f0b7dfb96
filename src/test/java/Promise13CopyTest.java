public final class Promise13CopyTest {
    public static void main(String[] args) {
        everySort();
        overlapping();
        exceptions();
        refusals();
        Check.end();
    }

    /** An ARRAY h of this SORT whose cell i has the BITS 10 * h + i and the SHADOW of INPUT i % 6. */
    private static void fill(ShadowMachine x, int h, int sort, int size) {
        int kind = Math.max(sort - 4, 0);
        x.constant(0, Codes.INT, size);
        x.array(h, sort, 0);
        for (int i = 0; i < size; i++) {
            x.constant(0, Codes.INT, i);
            x.input(1, kind, 10 * h + i, i % 6);
            x.store(h, 0, 1);
        }
    }

    private static void everySort() {
        for (int sort = 1; sort < 8; sort++) {
            ShadowMachine x = new ShadowMachine();
            fill(x, 1, sort, 4);
            fill(x, 3, sort, 6);
            int exact = sort < 4 ? 0 : 64;
            Check.due("copy(1, 1, 3, 2, 3)", x.copy(1, 1, 3, 2, 3), ShadowMachine.OK);
            Check.cell(x, 3, 1, 31, exact + 2);
            Check.cell(x, 3, 2, 11, exact + 2);
            Check.cell(x, 3, 3, 12, exact + 4);
            Check.cell(x, 3, 4, 13, exact + 8);
            Check.cell(x, 3, 5, 35, exact + 32);
            Check.cell(x, 1, 1, 11, exact + 2);
            Check.due("copy of nothing behind the last", x.copy(1, 4, 3, 6, 0), ShadowMachine.OK);
            Check.due("copy of all", x.copy(1, 0, 3, 2, 4), ShadowMachine.OK);
            Check.cell(x, 3, 5, 13, exact + 8);
            Check.counts(x, 0, 0, 0, 1);
        }
    }

    private static void overlapping() {
        for (int handle = 0; handle < 2; handle++) {
            ShadowMachine x = new ShadowMachine();
            fill(x, 0, 4, 5);
            x.share(1, 0);
            Check.due("copy up", x.copy(0, 0, handle, 1, 4), ShadowMachine.OK);
            Check.cell(x, 0, 0, 0, 65);
            for (int i = 1; i < 5; i++) {
                Check.cell(x, 0, i, i - 1, 64 + (1 << (i - 1)));
            }
            fill(x, 0, 4, 5);
            x.share(1, 0);
            Check.due("copy down", x.copy(handle, 1, 0, 0, 4), ShadowMachine.OK);
            for (int i = 0; i < 4; i++) {
                Check.cell(x, 0, i, i + 1, 64 + (1 << (i + 1)));
            }
            Check.cell(x, 0, 4, 4, 80);
        }
    }

    private static void exceptions() {
        ShadowMachine x = new ShadowMachine();
        fill(x, 0, 4, 3);
        fill(x, 1, 4, 5);
        fill(x, 2, 5, 3);
        Check.due("copy from null", x.copy(3, 0, 0, 0, 1), ShadowMachine.NULL);
        Check.due("copy to null", x.copy(0, 0, 3, 0, 1), ShadowMachine.NULL);
        Check.due("null is told before the bounds", x.copy(3, -1, 0, 0, -1), ShadowMachine.NULL);
        Check.due("copy to another SORT", x.copy(0, 0, 2, 0, 1), ShadowMachine.STORE);
        Check.due("copy of nothing to another SORT", x.copy(0, 0, 2, 0, 0), ShadowMachine.STORE);
        Check.due("the SORT is told before the bounds", x.copy(0, -1, 2, 9, 9), ShadowMachine.STORE);
        int most = Integer.MAX_VALUE;
        int[][] beyond = {
            {0, 0, -1}, {-1, 0, 1}, {0, -1, 1}, {0, 0, 4}, {2, 0, 2}, {0, 4, 2}, {4, 0, 0}, {0, 6, 0}, {-1, 0, 0}, {0, -1, 0},
            {most, 0, 1}, {0, most, 1}, {0, 0, most}, {most, most, most}, {1, 1, most}, {Integer.MIN_VALUE, 0, Integer.MIN_VALUE}
        };
        for (int[] row : beyond) {
            String call = "copy(0, " + row[0] + ", 1, " + row[1] + ", " + row[2] + ")";
            Check.due(call, x.copy(0, row[0], 1, row[1], row[2]), ShadowMachine.BOUNDS);
        }
        Check.counts(x, 0, 0, 6 + beyond.length, 1);
        for (int i = 0; i < 5; i++) {
            Check.cell(x, 1, i, 10 + i, 64 + (1 << i));
        }
    }

    private static void refusals() {
        ShadowMachine x = new ShadowMachine();
        fill(x, 0, 4, 3);
        String before = Check.state(x);
        for (int wrong : Codes.BELOW_AND_ABOVE_ARRAYS) {
            Check.due("copy of a wrong g", x.copy(wrong, 0, 0, 0, 1), ShadowMachine.REFUSED);
            Check.due("copy of a wrong h", x.copy(0, 0, wrong, 0, 1), ShadowMachine.REFUSED);
            Check.due("a wrong h is told before null", x.copy(1, 0, wrong, 0, 1), ShadowMachine.REFUSED);
            Check.due("a wrong g is told before null", x.copy(wrong, 0, 1, 0, 1), ShadowMachine.REFUSED);
        }
        Check.holds("a refused copy changes nothing", before.equals(Check.state(x)));
    }
}

public final class Promise07ArrayTest {
    public static void main(String[] args) {
        everySortAndSize();
        sizeIsPinned();
        newOneIsEmpty();
        wrongSizes();
        refusals();
        Check.end();
    }

    private static void everySortAndSize() {
        for (int sort = 0; sort < 8; sort++) {
            for (int n = 0; n <= 12; n++) {
                ShadowMachine x = new ShadowMachine();
                x.constant(2, Codes.INT, n);
                Check.due("array", x.array(3, sort, 2), ShadowMachine.OK);
                Check.due("the SORT", x.cell(3, -1, 2), sort);
                for (int i = 0; i < n; i++) {
                    Check.cell(x, 3, i, 0, 64);
                }
                Check.due("the cell behind the last", x.cell(3, n, 0), ShadowMachine.NONE);
                Check.counts(x, 0, 0, 0, 0);
            }
        }
    }

    private static void sizeIsPinned() {
        ShadowMachine x = new ShadowMachine();
        x.input(1, Codes.INT, 5, 3);
        Check.due("array", x.array(0, 6, 1), ShadowMachine.OK);
        Check.register(x, 1, Codes.INT, 5, 64);
        Check.pin(x, 0, 40, 8);
        Check.counts(x, 1, 0, 0, 0);
        x.array(0, 6, 1);
        Check.due("count(0)", x.count(0), 1);
    }

    private static void newOneIsEmpty() {
        ShadowMachine x = new ShadowMachine();
        x.constant(0, Codes.INT, 3);
        x.array(0, 4, 0);
        x.share(1, 0);
        x.input(1, Codes.INT, 9, 1);
        x.constant(2, Codes.INT, 2);
        x.store(0, 2, 1);
        for (int turn = 0; turn < 5; turn++) {
            x.array(0, 4, 0);
            Check.cell(x, 0, 2, 0, 64);
            Check.cell(x, 1, 2, 9, 66);
            x.store(0, 2, 1);
            Check.cell(x, 0, 2, 9, 66);
        }
    }

    private static void wrongSizes() {
        ShadowMachine x = new ShadowMachine();
        x.constant(0, Codes.INT, 2);
        x.array(1, 5, 0);
        for (long size : new long[] {-1, Integer.MIN_VALUE}) {
            x.input(0, Codes.INT, size, 0);
            Check.due("array of a negative size", x.array(1, 4, 0), ShadowMachine.NEGATIVE);
        }
        Check.counts(x, 0, 0, 2, 1);
        for (long size : new long[] {13, Integer.MAX_VALUE}) {
            x.input(0, Codes.INT, size, 0);
            Check.due("array of too large a size", x.array(1, 4, 0), ShadowMachine.REFUSED);
        }
        Check.due("shadow(0)", x.shadow(0), 65);
        Check.due("the SORT stays", x.cell(1, 0, 2), 5);
        Check.counts(x, 0, 0, 2, 1);
    }

    private static void refusals() {
        ShadowMachine x = new ShadowMachine();
        x.input(0, Codes.INT, 2, 2);
        for (int kind = Codes.LONG; kind <= Codes.DOUBLE; kind++) {
            x.input(kind, kind, 2, 3);
        }
        x.constant(4, Codes.INT, -1);
        String before = Check.state(x);
        for (int n = 1; n <= 3; n++) {
            Check.due("array of a size that is no INT", x.array(0, 4, n), ShadowMachine.REFUSED);
        }
        for (int h : Codes.BELOW_AND_ABOVE_ARRAYS) {
            Check.due("array of a wrong h", x.array(h, 4, 0), ShadowMachine.REFUSED);
            Check.due("a wrong h is told before a negative size", x.array(h, 4, 4), ShadowMachine.REFUSED);
        }
        for (int sort : new int[] {-1, 8, Integer.MIN_VALUE, Integer.MAX_VALUE}) {
            Check.due("array of a wrong sort", x.array(0, sort, 0), ShadowMachine.REFUSED);
            Check.due("a wrong sort is told before a negative size", x.array(0, sort, 4), ShadowMachine.REFUSED);
        }
        for (int n : Codes.BELOW_AND_ABOVE_REGISTERS) {
            Check.due("array of a wrong n", x.array(0, 4, n), ShadowMachine.REFUSED);
        }
        Check.holds("a refused array changes nothing", before.equals(Check.state(x)));
    }
}

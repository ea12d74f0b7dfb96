public final class Promise11StoreTest {
    private static final int[] KIND_TAKEN = {0, 0, 0, 0, 0, 1, 2, 3};

    public static void main(String[] args) {
        kindsAndShadows();
        lowBits();
        indexIsPinnedLast();
        exceptions();
        refusals();
        Check.end();
    }

    private static ShadowMachine withArray(int sort, int size) {
        ShadowMachine x = new ShadowMachine();
        x.constant(0, Codes.INT, size);
        x.array(0, sort, 0);
        x.constant(0, Codes.INT, 0);
        return x;
    }

    private static void kindsAndShadows() {
        for (int sort = 0; sort < 8; sort++) {
            for (int kind = 0; kind < 4; kind++) {
                ShadowMachine x = withArray(sort, 1);
                x.input(1, kind, 1, 5);
                boolean taken = kind == KIND_TAKEN[sort];
                String call = "store of KIND " + kind + " in SORT " + sort;
                Check.due(call, x.store(0, 0, 1), taken ? ShadowMachine.OK : ShadowMachine.STORE);
                Check.cell(x, 0, 0, taken ? 1 : 0, taken ? (sort < 4 ? 32 : 96) : 64);
                Check.register(x, 1, kind, 1, 96);
                x.constant(1, kind, 0);
                x.store(0, 0, 1);
                Check.cell(x, 0, 0, 0, 64);
                Check.due("count(2)", x.count(2), taken ? 0 : 2);
            }
        }
        inexactStaysInexact();
    }

    private static void inexactStaysInexact() {
        ShadowMachine x = withArray(4, 1);
        x.input(1, Codes.INT, 3, 0);
        x.two(Codes.MUL, 1, 1, 1);
        x.store(0, 0, 1);
        Check.cell(x, 0, 0, 9, 1);
    }

    private static void lowBits() {
        long[][] kept = {
            {0, 0x12345, 1}, {0, -2, 0}, {1, 0x12380, -128}, {1, 0x1237F, 127}, {2, 0x12345678, 0x5678}, {2, -1, 65535},
            {3, 0x12348000, -32768}, {3, 0x12347FFF, 32767}, {4, Integer.MIN_VALUE, Integer.MIN_VALUE}
        };
        for (long[] row : kept) {
            ShadowMachine x = withArray((int) row[0], 1);
            x.constant(1, Codes.INT, row[1]);
            Check.due("store", x.store(0, 0, 1), ShadowMachine.OK);
            Check.cell(x, 0, 0, row[2], 64);
        }
    }

    private static void indexIsPinnedLast() {
        ShadowMachine x = withArray(4, 3);
        x.input(1, Codes.INT, 2, 1);
        x.input(2, Codes.INT, 50, 2);
        Check.due("store", x.store(0, 1, 2), ShadowMachine.OK);
        Check.cell(x, 0, 2, 50, 68);
        Check.due("shadow of the INDEX", x.shadow(1), 64);
        Check.due("shadow of the value", x.shadow(2), 68);
        Check.pin(x, 0, 42, 2);
        x.input(1, Codes.INT, 1, 3);
        Check.due("store(0, 1, 1)", x.store(0, 1, 1), ShadowMachine.OK);
        Check.cell(x, 0, 1, 1, 72);
        Check.due("shadow of INDEX and value", x.shadow(1), 64);
        Check.pin(x, 0, 42, 8);
        Check.counts(x, 2, 0, 0, 1);
    }

    private static void exceptions() {
        ShadowMachine x = new ShadowMachine();
        x.input(1, Codes.INT, 1, 0);
        x.input(2, Codes.LONG, 1, 0);
        Check.due("store in null", x.store(0, 1, 1), ShadowMachine.NULL);
        Check.due("store of another KIND in null", x.store(0, 1, 2), ShadowMachine.NULL);
        x.constant(0, Codes.INT, 1);
        x.array(0, 4, 0);
        for (long index : new long[] {-1, 1, 12, Integer.MIN_VALUE, Integer.MAX_VALUE}) {
            x.input(1, Codes.INT, index, 0);
            Check.due("store at " + index, x.store(0, 1, 0), ShadowMachine.BOUNDS);
            Check.due("store of another KIND at " + index, x.store(0, 1, 2), ShadowMachine.STORE);
        }
        Check.cell(x, 0, 0, 0, 64);
        Check.due("shadow of the INDEX", x.shadow(1), 65);
        Check.counts(x, 0, 0, 12, 2);
    }

    private static void refusals() {
        ShadowMachine x = withArray(4, 3);
        for (int kind = Codes.LONG; kind <= Codes.DOUBLE; kind++) {
            x.input(kind, kind, 0, 1);
        }
        String before = Check.state(x);
        for (int i = 1; i <= 3; i++) {
            Check.due("store at what is no INT", x.store(0, i, 0), ShadowMachine.REFUSED);
            Check.due("store of another KIND at what is no INT", x.store(0, i, 2), ShadowMachine.REFUSED);
            Check.due("store in null at what is no INT", x.store(1, i, 0), ShadowMachine.REFUSED);
        }
        for (int wrong : Codes.BELOW_AND_ABOVE_REGISTERS) {
            Check.due("store of a wrong i", x.store(0, wrong, 0), ShadowMachine.REFUSED);
            Check.due("store of a wrong a", x.store(0, 0, wrong), ShadowMachine.REFUSED);
            Check.due("a wrong a is told before null", x.store(1, 0, wrong), ShadowMachine.REFUSED);
        }
        for (int wrong : Codes.BELOW_AND_ABOVE_ARRAYS) {
            Check.due("store of a wrong h", x.store(wrong, 0, 0), ShadowMachine.REFUSED);
        }
        Check.holds("a refused store changes nothing", before.equals(Check.state(x)));
    }
}

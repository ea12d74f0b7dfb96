public final class Promise10LoadTest {
    public static void main(String[] args) {
        everySort();
        indexIsPinned();
        indexIntoItself();
        exceptions();
        refusals();
        Check.end();
    }

    private static void loads(int sort, int kind, long stored, long loaded, int shadow) {
        ShadowMachine x = new ShadowMachine();
        x.constant(0, Codes.INT, 12);
        x.array(1, sort, 0);
        x.constant(0, Codes.INT, 11);
        x.input(3, kind, stored, 2);
        x.store(1, 0, 3);
        Check.due("load", x.load(5, 1, 0), ShadowMachine.OK);
        Check.register(x, 5, kind, loaded, shadow);
        x.constant(0, Codes.INT, 0);
        Check.due("load", x.load(5, 1, 0), ShadowMachine.OK);
        Check.register(x, 5, kind, 0, 64);
    }

    private static void everySort() {
        loads(0, Codes.INT, 3, 1, 4);
        loads(0, Codes.INT, 2, 0, 4);
        loads(1, Codes.INT, 0x1FF, -1, 4);
        loads(1, Codes.INT, 0x17F, 127, 4);
        loads(2, Codes.INT, -1, 65535, 4);
        loads(3, Codes.INT, 0x1FFFF, -1, 4);
        loads(4, Codes.INT, Integer.MIN_VALUE, Integer.MIN_VALUE, 68);
        loads(5, Codes.LONG, Long.MIN_VALUE, Long.MIN_VALUE, 68);
        loads(6, Codes.FLOAT, Codes.bitsOf(-0f), Codes.bitsOf(-0f), 68);
        loads(7, Codes.DOUBLE, Codes.bitsOf(-1e-310), Codes.bitsOf(-1e-310), 68);
    }

    private static void indexIsPinned() {
        ShadowMachine x = new ShadowMachine();
        x.constant(0, Codes.INT, 2);
        x.array(0, 5, 0);
        x.input(1, Codes.INT, 1, 4);
        Check.due("load", x.load(2, 0, 1), ShadowMachine.OK);
        Check.register(x, 1, Codes.INT, 1, 64);
        Check.register(x, 2, Codes.LONG, 0, 64);
        Check.pin(x, 0, 41, 16);
        Check.counts(x, 1, 0, 0, 0);
    }

    private static void indexIntoItself() {
        ShadowMachine x = new ShadowMachine();
        x.constant(0, Codes.INT, 2);
        x.array(0, 4, 0);
        x.constant(1, Codes.INT, 1);
        x.input(2, Codes.INT, 99, 0);
        x.store(0, 1, 2);
        x.input(1, Codes.INT, 1, 3);
        Check.due("load(1, 0, 1)", x.load(1, 0, 1), ShadowMachine.OK);
        Check.register(x, 1, Codes.INT, 99, 65);
        Check.pin(x, 0, 41, 8);
    }

    private static void exceptions() {
        ShadowMachine x = new ShadowMachine();
        x.input(1, Codes.INT, -1, 1);
        x.input(2, Codes.FLOAT, 5, 2);
        Check.due("load of null", x.load(2, 0, 1), ShadowMachine.NULL);
        x.constant(0, Codes.INT, 3);
        x.array(0, 4, 0);
        for (long index : new long[] {-1, 3, 12, Integer.MIN_VALUE, Integer.MAX_VALUE}) {
            x.input(1, Codes.INT, index, 1);
            Check.due("load at " + index, x.load(2, 0, 1), ShadowMachine.BOUNDS);
        }
        x.constant(0, Codes.INT, 0);
        x.array(0, 4, 0);
        Check.due("load of no cells", x.load(2, 0, 0), ShadowMachine.BOUNDS);
        Check.register(x, 2, Codes.FLOAT, 5, 68);
        Check.due("shadow(1)", x.shadow(1), 66);
        Check.counts(x, 0, 0, 7, 2);
    }

    private static void refusals() {
        ShadowMachine x = new ShadowMachine();
        x.constant(0, Codes.INT, 3);
        x.array(0, 4, 0);
        for (int kind = Codes.LONG; kind <= Codes.DOUBLE; kind++) {
            x.input(kind, kind, 0, 1);
        }
        String before = Check.state(x);
        for (int i = 1; i <= 3; i++) {
            Check.due("load at what is no INT", x.load(5, 0, i), ShadowMachine.REFUSED);
            Check.due("load of null at what is no INT", x.load(5, 1, i), ShadowMachine.REFUSED);
        }
        for (int wrong : Codes.BELOW_AND_ABOVE_REGISTERS) {
            Check.due("load of a wrong r", x.load(wrong, 0, 0), ShadowMachine.REFUSED);
            Check.due("a wrong r is told before null", x.load(wrong, 1, 0), ShadowMachine.REFUSED);
            Check.due("load of a wrong i", x.load(0, 0, wrong), ShadowMachine.REFUSED);
        }
        for (int wrong : Codes.BELOW_AND_ABOVE_ARRAYS) {
            Check.due("load of a wrong h", x.load(0, wrong, 0), ShadowMachine.REFUSED);
        }
        Check.holds("a refused load changes nothing", before.equals(Check.state(x)));
    }
}

public final class Promise02ConstantTest {
    private static final long WIDE = 0x123456789ABCDEF0L;

    public static void main(String[] args) {
        ShadowMachine x = new ShadowMachine();
        for (int r = 0; r < 8; r++) {
            Check.due("constant", x.constant(r, Codes.INT, 100 + r), ShadowMachine.OK);
            Check.register(x, r, Codes.INT, 100 + r, 64);
        }
        keeps(x, Codes.INT, WIDE, 0xFFFFFFFF9ABCDEF0L);
        keeps(x, Codes.FLOAT, WIDE, 0xFFFFFFFF9ABCDEF0L);
        keeps(x, Codes.LONG, WIDE, WIDE);
        keeps(x, Codes.DOUBLE, WIDE, WIDE);
        keeps(x, Codes.INT, 0x80000000L, Integer.MIN_VALUE);
        keeps(x, Codes.LONG, Long.MIN_VALUE, Long.MIN_VALUE);
        allNansAreOne(x);
        shadowIsEmptied(x);
        refusals();
        Check.end();
    }

    private static void keeps(ShadowMachine x, int kind, long given, long kept) {
        Check.due("constant", x.constant(3, kind, given), ShadowMachine.OK);
        Check.register(x, 3, kind, kept, 64);
    }

    private static void allNansAreOne(ShadowMachine x) {
        keeps(x, Codes.FLOAT, 0x7F800001L, 0x7FC00000L);
        keeps(x, Codes.FLOAT, 0xFFC00000L, 0x7FC00000L);
        keeps(x, Codes.FLOAT, -1, 0x7FC00000L);
        keeps(x, Codes.FLOAT, 0x7F800000L, 0x7F800000L);
        keeps(x, Codes.FLOAT, 0xFF800000L, 0xFFFFFFFFFF800000L);
        keeps(x, Codes.DOUBLE, 0x7FF0000000000001L, 0x7FF8000000000000L);
        keeps(x, Codes.DOUBLE, 0xFFF8000000000000L, 0x7FF8000000000000L);
        keeps(x, Codes.DOUBLE, -1, 0x7FF8000000000000L);
        keeps(x, Codes.DOUBLE, 0x7FF0000000000000L, 0x7FF0000000000000L);
        keeps(x, Codes.DOUBLE, 0xFFF0000000000000L, 0xFFF0000000000000L);
        keeps(x, Codes.INT, 0x7F800001L, 0x7F800001L);
        keeps(x, Codes.LONG, 0x7FF0000000000001L, 0x7FF0000000000001L);
    }

    private static void shadowIsEmptied(ShadowMachine x) {
        x.input(5, Codes.LONG, 7, 2);
        x.constant(5, Codes.LONG, 7);
        Check.register(x, 5, Codes.LONG, 7, 64);
        Check.counts(x, 0, 0, 0, 0);
    }

    private static void refusals() {
        ShadowMachine x = new ShadowMachine();
        String before = Check.state(x);
        for (int r : Codes.BELOW_AND_ABOVE_REGISTERS) {
            Check.due("constant of a wrong r", x.constant(r, Codes.INT, 5), ShadowMachine.REFUSED);
        }
        for (int kind : new int[] {-1, 4, Integer.MIN_VALUE, Integer.MAX_VALUE}) {
            Check.due("constant of a wrong kind", x.constant(0, kind, 5), ShadowMachine.REFUSED);
        }
        Check.holds("a refused constant changes nothing", before.equals(Check.state(x)));
    }
}

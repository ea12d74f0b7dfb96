public final class Promise03InputTest {
    public static void main(String[] args) {
        ShadowMachine x = new ShadowMachine();
        for (int k = 0; k < 6; k++) {
            Check.due("input", x.input(k, Codes.INT, -k, k), ShadowMachine.OK);
            Check.register(x, k, Codes.INT, -k, 64 + (1 << k));
            Check.due("count(3)", x.count(3), k + 1);
        }
        x.input(0, Codes.LONG, Long.MAX_VALUE, 4);
        Check.register(x, 0, Codes.LONG, Long.MAX_VALUE, 80);
        x.input(7, Codes.INT, 0x1_FFFF_FFFFL, 5);
        Check.register(x, 7, Codes.INT, -1, 96);
        x.input(7, Codes.FLOAT, 0x7F812345L, 5);
        Check.register(x, 7, Codes.FLOAT, 0x7FC00000L, 96);
        x.input(7, Codes.DOUBLE, 0xFFFF000000000000L, 5);
        Check.register(x, 7, Codes.DOUBLE, 0x7FF8000000000000L, 96);
        Check.counts(x, 0, 0, 0, 7);
        refusals();
        Check.end();
    }

    private static void refusals() {
        ShadowMachine x = new ShadowMachine();
        String before = Check.state(x);
        for (int r : Codes.BELOW_AND_ABOVE_REGISTERS) {
            Check.due("input of a wrong r", x.input(r, Codes.INT, 5, 0), ShadowMachine.REFUSED);
        }
        for (int kind : new int[] {-1, 4, Integer.MIN_VALUE, Integer.MAX_VALUE}) {
            Check.due("input of a wrong kind", x.input(0, kind, 5, 0), ShadowMachine.REFUSED);
        }
        for (int k : new int[] {-1, 6, 31, 32, Integer.MIN_VALUE, Integer.MAX_VALUE}) {
            Check.due("input of a wrong k", x.input(0, Codes.INT, 5, k), ShadowMachine.REFUSED);
        }
        Check.holds("a refused input changes nothing", before.equals(Check.state(x)));
    }
}

public final class Promise12LengthTest {
    public static void main(String[] args) {
        everySize();
        ShadowMachine x = new ShadowMachine();
        x.input(0, Codes.INT, 4, 0);
        x.array(2, 4, 0);
        x.length(5, 2);
        Check.register(x, 5, Codes.INT, 4, 64);
        x.input(5, Codes.LONG, 7, 3);
        Check.due("length of null", x.length(5, 1), ShadowMachine.NULL);
        Check.register(x, 5, Codes.LONG, 7, 72);
        Check.counts(x, 1, 0, 1, 1);
        String before = Check.state(x);
        for (int wrong : Codes.BELOW_AND_ABOVE_REGISTERS) {
            Check.due("length of a wrong r", x.length(wrong, 2), ShadowMachine.REFUSED);
            Check.due("a wrong r is told before null", x.length(wrong, 1), ShadowMachine.REFUSED);
        }
        for (int wrong : Codes.BELOW_AND_ABOVE_ARRAYS) {
            Check.due("length of a wrong h", x.length(5, wrong), ShadowMachine.REFUSED);
        }
        Check.holds("a refused length changes nothing", before.equals(Check.state(x)));
        Check.end();
    }

    private static void everySize() {
        ShadowMachine x = new ShadowMachine();
        for (int n = 0; n <= 12; n++) {
            x.constant(0, Codes.INT, n);
            x.array(2, n % 8, 0);
            x.input(5, Codes.DOUBLE, -1, 3);
            Check.due("length", x.length(5, 2), ShadowMachine.OK);
            Check.register(x, 5, Codes.INT, n, 64);
        }
    }
}

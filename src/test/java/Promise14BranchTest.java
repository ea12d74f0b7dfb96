public final class Promise14BranchTest {
    private static final int[][] SO = {
        // less, equal, greater
        {0, 1, 0}, {1, 0, 1}, {1, 0, 0}, {0, 1, 1}, {0, 0, 1}, {1, 1, 0}
    };

    public static void main(String[] args) {
        everyTest();
        ways();
        refusals();
        Check.end();
    }

    private static void everyTest() {
        int[] numbers = {Integer.MIN_VALUE, -1, 0, 1, Integer.MAX_VALUE};
        for (int test = 0; test < 6; test++) {
            for (int a : numbers) {
                for (int b : numbers) {
                    ShadowMachine x = new ShadowMachine();
                    x.constant(1, Codes.INT, a);
                    x.constant(2, Codes.INT, b);
                    int so = SO[test][Integer.compare(a, b) + 1];
                    Check.due("branch(" + test + ") of " + a + " and " + b, x.branch(test, 1, 2), so);
                    Check.counts(x, 0, 0, 0, 0);
                    x.input(2, Codes.INT, b, 0);
                    Check.due("branch(" + test + ") of " + a + " and input " + b, x.branch(test, 1, 2), so);
                    Check.way(x, 0, so, 1, 1);
                }
            }
        }
    }

    private static void ways() {
        ShadowMachine x = new ShadowMachine();
        x.constant(0, Codes.INT, 5);
        x.input(1, Codes.INT, 5, 1);
        x.input(2, Codes.INT, 6, 2);
        x.two(Codes.MUL, 3, 1, 2);
        Check.due("branch(2, 0, 1)", x.branch(2, 0, 1), 0);
        Check.way(x, 0, 0, 2, 1);
        Check.due("branch(2, 1, 2)", x.branch(2, 1, 2), 1);
        Check.way(x, 0, 1, 6, 1);
        Check.due("branch(4, 3, 0)", x.branch(4, 3, 0), 1);
        Check.way(x, 0, 1, 6, 0);
        Check.due("branch(4, 1, 3)", x.branch(4, 1, 3), 0);
        Check.way(x, 0, 0, 6, 0);
        Check.due("branch(0, 2, 2)", x.branch(0, 2, 2), 1);
        Check.way(x, 0, 1, 4, 1);
        Check.due("branch(0, 0, 0)", x.branch(0, 0, 0), 1);
        Check.counts(x, 0, 5, 0, 3);
        Check.register(x, 1, Codes.INT, 5, 66);
        Check.register(x, 3, Codes.INT, 30, 6);
    }

    private static void refusals() {
        ShadowMachine x = new ShadowMachine();
        x.input(0, Codes.INT, 1, 0);
        for (int kind = Codes.LONG; kind <= Codes.DOUBLE; kind++) {
            x.input(kind, kind, 1, 1);
        }
        String before = Check.state(x);
        for (int r = 1; r <= 3; r++) {
            Check.due("branch of an a that is no INT", x.branch(0, r, 0), ShadowMachine.REFUSED);
            Check.due("branch of a b that is no INT", x.branch(0, 0, r), ShadowMachine.REFUSED);
            Check.due("branch of two that are no INT", x.branch(0, r, r), ShadowMachine.REFUSED);
        }
        for (int test : new int[] {-1, 6, Integer.MIN_VALUE, Integer.MAX_VALUE}) {
            Check.due("branch of a wrong test", x.branch(test, 0, 0), ShadowMachine.REFUSED);
        }
        for (int wrong : Codes.BELOW_AND_ABOVE_REGISTERS) {
            Check.due("branch of a wrong a", x.branch(0, wrong, 0), ShadowMachine.REFUSED);
            Check.due("branch of a wrong b", x.branch(0, 0, wrong), ShadowMachine.REFUSED);
        }
        Check.holds("a refused branch changes nothing", before.equals(Check.state(x)));
    }
}

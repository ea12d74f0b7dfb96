public final class Promise21CountTest {
    public static void main(String[] args) {
        ShadowMachine x = new ShadowMachine();
        pinsAndWays(x);
        exceptions(x);
        dependentRegisters();
        refusals();
        Check.end();
    }

    private static void refusals() {
        ShadowMachine x = new ShadowMachine();
        x.input(0, Codes.INT, 0, 0);
        x.branch(0, 0, 0);
        String before = Check.state(x);
        for (int what : new int[] {-1, 4, Integer.MIN_VALUE, Integer.MAX_VALUE}) {
            Check.due("count(" + what + ")", x.count(what), ShadowMachine.REFUSED);
        }
        Check.holds("asking changes nothing", before.equals(Check.state(x)));
    }

    private static void pinsAndWays(ShadowMachine x) {
        for (int n = 1; n <= 20; n++) {
            x.input(0, Codes.DOUBLE, 0, 1);
            x.input(1, Codes.DOUBLE, 0, 2);
            x.two(Codes.SUB, 2, 0, 1);
            x.input(3, Codes.INT, 0, 3);
            x.branch(0, 3, 3);
            Check.counts(x, 2 * n, n, 0, 1);
        }
    }

    /** Each EXCEPTION counts, from each call that answers it; what is REFUSED does not. */
    private static void exceptions(ShadowMachine x) {
        int before = x.count(2);
        x.constant(0, Codes.INT, 0);
        x.constant(1, Codes.INT, -1);
        x.constant(2, Codes.LONG, 0);
        x.two(Codes.DIV, 3, 0, 0);
        x.two(Codes.REM, 3, 2, 2);
        x.array(0, 4, 1);
        x.load(3, 0, 0);
        x.store(0, 0, 0);
        x.length(3, 0);
        x.copy(0, 0, 0, 0, 0);
        Check.due("count(2)", x.count(2), before + 7);
        x.array(0, 4, 0);
        x.array(1, 5, 0);
        x.load(3, 0, 0);
        x.store(0, 0, 0);
        x.store(0, 0, 2);
        x.copy(0, 0, 1, 0, 0);
        x.copy(0, 0, 0, 0, 1);
        Check.due("count(2)", x.count(2), before + 12);
        x.kind(8);
        x.two(Codes.DIV, 3, 0, 2);
        x.load(3, 0, 2);
        x.branch(0, 0, 2);
        x.cell(0, 0, 0);
        x.constant(4, Codes.INT, ShadowMachine.BOUNDS);
        x.bits(4);
        x.count(-1);
        Check.due("count(2)", x.count(2), before + 12);
    }

    private static void dependentRegisters() {
        ShadowMachine x = new ShadowMachine();
        for (int r = 0; r < 8; r++) {
            x.input(r, Codes.LONG, r, r % 6);
            Check.due("count(3)", x.count(3), r + 1);
        }
        x.two(Codes.MUL, 0, 1, 2);
        Check.due("an inexact one counts too", x.count(3), 8);
        for (int r = 0; r < 8; r++) {
            x.constant(r, Codes.LONG, r);
            Check.due("count(3)", x.count(3), 7 - r);
        }
    }
}

/** Any numbers in any state: cell, pin and way answer NONE, bits too, all others REFUSED, and nothing changes. */
public final class Promise22OrderAndLimitsTest {
    private static final int[] WILD = {Integer.MIN_VALUE, -65, -2, -1, 99, 1 << 20, Integer.MAX_VALUE};

    public static void main(String[] args) {
        for (int n : WILD) {
            ShadowMachine x = busyMachine();
            String before = Check.state(x);
            none(x, n);
            refused(x, n);
            Check.holds("wild numbers change nothing", before.equals(Check.state(x)));
        }
        constants();
        Check.end();
    }

    private static ShadowMachine busyMachine() {
        ShadowMachine x = new ShadowMachine();
        x.input(0, Codes.INT, 2, 0);
        x.array(0, 4, 0);
        x.input(1, Codes.INT, 1, 1);
        x.branch(2, 1, 1);
        x.load(2, 3, 1);
        x.store(0, 1, 0);
        x.input(2, Codes.LONG, 5, 2);
        return x;
    }

    private static void none(ShadowMachine x, int n) {
        Check.due("cell(" + n + ", 0, 0)", x.cell(n, 0, 0), ShadowMachine.NONE);
        Check.due("cell(0, " + n + ", 0)", x.cell(0, n, 0), ShadowMachine.NONE);
        Check.due("cell(0, " + n + ", 1)", x.cell(0, n, 1), ShadowMachine.NONE);
        Check.due("cell(0, 0, " + n + ")", x.cell(0, 0, n), ShadowMachine.NONE);
        Check.due("pin(" + n + ", 0)", x.pin(n, 0), ShadowMachine.NONE);
        Check.due("pin(0, " + n + ")", x.pin(0, n), ShadowMachine.NONE);
        Check.due("way(" + n + ", 0)", x.way(n, 0), ShadowMachine.NONE);
        Check.due("way(0, " + n + ")", x.way(0, n), ShadowMachine.NONE);
        Check.due("bits(" + n + ")", x.bits(n), ShadowMachine.NONE);
    }

    private static void refused(ShadowMachine x, int n) {
        int[] answers = {
            x.constant(n, 0, 1), x.constant(0, n, 1), x.input(n, 0, 1, 0), x.input(0, n, 1, 0), x.input(0, 0, 1, n),
            x.one(n, 0, 0), x.one(15, n, 0), x.one(15, 0, n), x.two(n, 0, 0, 0), x.two(20, n, 0, 0), x.two(20, 0, n, 0),
            x.two(20, 0, 0, n), x.move(n, 0), x.move(0, n), x.array(n, 4, 0), x.array(0, n, 0), x.array(0, 4, n), x.drop(n),
            x.share(n, 0), x.share(0, n), x.load(n, 0, 0), x.load(0, n, 0), x.load(0, 0, n), x.store(n, 0, 0), x.store(0, n, 0),
            x.store(0, 0, n), x.length(n, 0), x.length(0, n), x.copy(n, 0, 0, 0, 1), x.copy(0, 0, n, 0, 1), x.branch(n, 0, 0),
            x.branch(0, n, 0), x.branch(0, 0, n), x.kind(n), x.shadow(n), x.count(n)
        };
        for (int i = 0; i < answers.length; i++) {
            Check.due("answer " + i + " for " + n, answers[i], ShadowMachine.REFUSED);
        }
    }

    private static void constants() {
        Check.due("OK", ShadowMachine.OK, 0);
        Check.due("REFUSED", ShadowMachine.REFUSED, -1);
        Check.due("ARITHMETIC", ShadowMachine.ARITHMETIC, -2);
        Check.due("NULL", ShadowMachine.NULL, -3);
        Check.due("BOUNDS", ShadowMachine.BOUNDS, -4);
        Check.due("NEGATIVE", ShadowMachine.NEGATIVE, -5);
        Check.due("STORE", ShadowMachine.STORE, -6);
        Check.due("NONE", ShadowMachine.NONE, 1234567890123456789L);
    }
}

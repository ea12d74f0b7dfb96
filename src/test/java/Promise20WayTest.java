public final class Promise20WayTest {
    public static void main(String[] args) {
        ShadowMachine x = new ShadowMachine();
        Check.due("way(0, 0)", x.way(0, 0), ShadowMachine.NONE);
        for (int n = 0; n < 40; n++) {
            x.input(1, Codes.INT, 1, n % 6);
            if (n % 3 == 0) {
                x.two(Codes.MUL, 1, 1, 1);
            }
            x.branch(n % 2, 0, 1);
            x.branch(0, 0, 0);
            lastOnesAreKept(x, n);
        }
        Check.counts(x, 0, 40, 0, 1);
        Check.end();
    }

    private static void lastOnesAreKept(ShadowMachine x, int newest) {
        Check.due("count(1)", x.count(1), newest + 1);
        for (int k = 0; k < 16 && k <= newest; k++) {
            int n = newest - k;
            Check.way(x, k, n % 2, 1 << n % 6, n % 3 == 0 ? 0 : 1);
        }
        for (int k : new int[] {Math.min(newest + 1, 16), 16, 17, -1, Integer.MIN_VALUE, Integer.MAX_VALUE}) {
            for (int what = 0; what < 3; what++) {
                Check.due("way(" + k + ", " + what + ")", x.way(k, what), ShadowMachine.NONE);
            }
        }
        for (int what : new int[] {-1, 3, Integer.MIN_VALUE, Integer.MAX_VALUE}) {
            Check.due("way(0, " + what + ")", x.way(0, what), ShadowMachine.NONE);
        }
    }
}

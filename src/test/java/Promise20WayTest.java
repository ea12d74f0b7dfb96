public final class Promise20WayTest {
    public static void main(String[] args) {
        Check.due("way(0, 0)", new ShadowMachine().way(0, 0), ShadowMachine.NONE);
        for (int newest = 0; newest < 40; newest++) {
            ShadowMachine x = new ShadowMachine();
            for (int n = 0; n <= newest; n++) {
                takeWay(x, n);
            }
            lastOnesAreKept(x, newest);
        }
        Check.end();
    }

    private static void takeWay(ShadowMachine x, int n) {
        x.input(1, Codes.INT, 1, n % 6);
        if (n % 3 == 0) {
            x.two(Codes.MUL, 1, 1, 1);
        }
        x.branch(n % 2, 0, 1);
        x.branch(0, 0, 0);
    }

    private static void lastOnesAreKept(ShadowMachine x, int newest) {
        Check.counts(x, 0, newest + 1, 0, 1);
        for (int k = 0; k < 16 && k <= newest; k++) {
            int n = newest - k;
            Check.way(x, k, n % 2, 1 << n % 6, n % 3 == 0 ? 0 : 1);
        }
        for (int k : new int[] {Math.min(newest + 1, 16), 16, 17, -1, Integer.MIN_VALUE, Integer.MAX_VALUE}) {
            for (int what = 0; what < 3; what++) {
                Check.due("way(" + k + ", " + what + ")", x.way(k, what), ShadowMachine.NONE);
            }
        }
        for (int what : new int[] {-1, 3, Integer.MIN_VALUE, Integer.MAX_VALUE}) {
            Check.due("way(0, " + what + ")", x.way(0, what), ShadowMachine.NONE);
        }
    }
}

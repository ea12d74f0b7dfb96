public final class Promise19PinTest {
    public static void main(String[] args) {
        Check.due("pin(0, 0)", new ShadowMachine().pin(0, 0), ShadowMachine.NONE);
        for (int newest = 0; newest < 40; newest++) {
            ShadowMachine x = new ShadowMachine();
            for (int n = 0; n <= newest; n++) {
                x.input(1, Codes.FLOAT, 0, n % 6);
                x.two(Codes.ADD + n % 5, 2, 1, 1);
            }
            lastOnesAreKept(x, newest);
        }
        everyPinningCall();
        Check.end();
    }

    private static void lastOnesAreKept(ShadowMachine x, int newest) {
        Check.due("count(0)", x.count(0), newest + 1);
        for (int k = 0; k < 16 && k <= newest; k++) {
            int n = newest - k;
            Check.pin(x, k, Codes.ADD + n % 5, 1 << n % 6);
        }
        for (int k : new int[] {Math.min(newest + 1, 16), 16, 17, -1, Integer.MIN_VALUE, Integer.MAX_VALUE}) {
            Check.due("pin(" + k + ", 0)", x.pin(k, 0), ShadowMachine.NONE);
            Check.due("pin(" + k + ", 1)", x.pin(k, 1), ShadowMachine.NONE);
        }
        for (int what : new int[] {-1, 2, 3, Integer.MIN_VALUE, Integer.MAX_VALUE}) {
            Check.due("pin(0, " + what + ")", x.pin(0, what), ShadowMachine.NONE);
        }
    }

    private static void everyPinningCall() {
        ShadowMachine x = new ShadowMachine();
        x.input(0, Codes.INT, 1, 0);
        x.array(0, 4, 0);
        x.input(0, Codes.INT, 0, 1);
        x.load(1, 0, 0);
        x.input(0, Codes.INT, 0, 2);
        x.store(0, 0, 1);
        Check.pin(x, 0, 42, 4);
        Check.pin(x, 1, 41, 2);
        Check.pin(x, 2, 40, 1);
        Check.due("pin(3, 0)", x.pin(3, 0), ShadowMachine.NONE);
        x.input(3, Codes.DOUBLE, 0, 3);
        x.input(4, Codes.INT, 0, 4);
        x.one(Codes.I2D, 4, 4);
        x.two(Codes.LEAST, 5, 3, 4);
        x.two(Codes.REM, 6, 5, 3);
        Check.pin(x, 0, 24, 8);
        Check.pin(x, 1, 24, 24);
        Check.pin(x, 2, 42, 4);
    }
}

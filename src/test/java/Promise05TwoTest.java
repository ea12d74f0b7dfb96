public final class Promise05TwoTest {
    public static void main(String[] args) {
        wholeCalculations();
        wholeCombinations();
        comparisons();
        floatingCalculations();
        leastAndGreatest();
        divisionByZero();
        followedShadows();
        pinnedOperands();
        ontoItself();
        kindsTaken();
        refusals();
        Check.end();
    }

    private static void gives(int operation, int kind, long a, long b, long result) {
        gives(operation, kind, a, kind, b, kind, result);
    }

    private static void gives(int operation, int kind, long a, int otherKind, long b, int resultKind, long result) {
        ShadowMachine x = new ShadowMachine();
        x.constant(1, kind, a);
        x.constant(2, otherKind, b);
        String call = "two(" + operation + ", 7, 1, 2) of " + a + " and " + b;
        Check.due(call, x.two(operation, 7, 1, 2), ShadowMachine.OK);
        Check.register(x, 7, resultKind, result, 64);
        Check.register(x, 1, kind, a, 64);
        Check.register(x, 2, otherKind, b, 64);
    }

    private static void floats(int operation, float a, float b, float result) {
        gives(operation, Codes.FLOAT, Codes.bitsOf(a), Codes.bitsOf(b), Codes.bitsOf(result));
    }

    private static void doubles(int operation, double a, double b, double result) {
        gives(operation, Codes.DOUBLE, Codes.bitsOf(a), Codes.bitsOf(b), Codes.bitsOf(result));
    }

    private static void wholeCalculations() {
        int intMin = Integer.MIN_VALUE;
        long longMin = Long.MIN_VALUE;
        gives(Codes.ADD, Codes.INT, Integer.MAX_VALUE, 1, intMin);
        gives(Codes.ADD, Codes.LONG, Integer.MAX_VALUE, 1, 2147483648L);
        gives(Codes.ADD, Codes.LONG, Long.MAX_VALUE, 1, longMin);
        gives(Codes.SUB, Codes.INT, intMin, 1, Integer.MAX_VALUE);
        gives(Codes.SUB, Codes.LONG, longMin, 1, Long.MAX_VALUE);
        gives(Codes.MUL, Codes.INT, 65536, 65537, 65536);
        gives(Codes.MUL, Codes.INT, intMin, -1, intMin);
        gives(Codes.MUL, Codes.LONG, 1L << 62, 6, longMin);
        gives(Codes.DIV, Codes.INT, -7, 2, -3);
        gives(Codes.DIV, Codes.INT, intMin, -1, intMin);
        gives(Codes.DIV, Codes.LONG, intMin, -1, 2147483648L);
        gives(Codes.DIV, Codes.LONG, longMin, -1, longMin);
        gives(Codes.DIV, Codes.INT, -7, 1, -7);
        gives(Codes.DIV, Codes.LONG, longMin, 1, longMin);
        gives(Codes.REM, Codes.INT, -7, 2, -1);
        gives(Codes.REM, Codes.INT, 7, -2, 1);
        gives(Codes.REM, Codes.INT, intMin, -1, 0);
        gives(Codes.REM, Codes.LONG, longMin, -1, 0);
        gives(Codes.LEAST, Codes.INT, -3, 2, -3);
        gives(Codes.GREATEST, Codes.INT, -3, 2, 2);
        gives(Codes.LEAST, Codes.LONG, longMin, Long.MAX_VALUE, longMin);
        gives(Codes.GREATEST, Codes.LONG, longMin, Long.MAX_VALUE, Long.MAX_VALUE);
    }

    private static void wholeCombinations() {
        gives(Codes.SHL, Codes.INT, 1, 33, 2);
        gives(Codes.SHL, Codes.INT, 1, 31, Integer.MIN_VALUE);
        gives(Codes.SHL, Codes.INT, 3, -1, Integer.MIN_VALUE);
        gives(Codes.SHR, Codes.INT, -8, 33, -4);
        gives(Codes.USHR, Codes.INT, -1, 0, -1);
        gives(Codes.USHR, Codes.INT, -1, 28, 15);
        gives(Codes.USHR, Codes.INT, -1, 32, -1);
        gives(Codes.SHL, Codes.LONG, 1, Codes.INT, 33, Codes.LONG, 1L << 33);
        gives(Codes.SHL, Codes.LONG, 1, Codes.INT, 65, Codes.LONG, 2);
        gives(Codes.SHR, Codes.LONG, -8, Codes.INT, -63, Codes.LONG, -4);
        gives(Codes.USHR, Codes.LONG, -1, Codes.INT, 60, Codes.LONG, 15);
        gives(Codes.USHR, Codes.LONG, -1, Codes.INT, 64, Codes.LONG, -1);
        gives(Codes.AND, Codes.INT, -4, 0x7FFFFFFF, 0x7FFFFFFC);
        gives(Codes.OR, Codes.INT, 5, Integer.MIN_VALUE, Integer.MIN_VALUE + 5);
        gives(Codes.XOR, Codes.INT, -1, 5, -6);
        gives(Codes.AND, Codes.LONG, -1, 0xF0F0F0F0F0L, 0xF0F0F0F0F0L);
        gives(Codes.OR, Codes.LONG, 1, Long.MIN_VALUE, Long.MIN_VALUE + 1);
        gives(Codes.XOR, Codes.LONG, -1, Long.MIN_VALUE, Long.MAX_VALUE);
    }

    private static void compares(int kind, long a, long b, int cmpl, int cmpg) {
        gives(Codes.CMPL, kind, a, kind, b, Codes.INT, cmpl);
        gives(Codes.CMPG, kind, a, kind, b, Codes.INT, cmpg);
    }

    private static void comparisons() {
        compares(Codes.LONG, Long.MIN_VALUE, Long.MAX_VALUE, -1, -1);
        compares(Codes.LONG, 3, 3, 0, 0);
        compares(Codes.LONG, 3, -3, 1, 1);
        float[] numbers = {Float.NEGATIVE_INFINITY, -2f, -Float.MIN_VALUE, 0f, Float.MIN_VALUE, 2f, Float.POSITIVE_INFINITY};
        for (int i = 0; i < numbers.length; i++) {
            for (int j = 0; j < numbers.length; j++) {
                int order = Integer.compare(i, j);
                compares(Codes.FLOAT, Codes.bitsOf(numbers[i]), Codes.bitsOf(numbers[j]), order, order);
                compares(Codes.DOUBLE, Codes.bitsOf((double) numbers[i]), Codes.bitsOf((double) numbers[j]), order, order);
            }
        }
        compares(Codes.FLOAT, Codes.bitsOf(-0f), Codes.bitsOf(0f), 0, 0);
        compares(Codes.DOUBLE, Codes.bitsOf(0.0), Codes.bitsOf(-0.0), 0, 0);
        compares(Codes.FLOAT, Codes.bitsOf(Float.NaN), Codes.bitsOf(1f), -1, 1);
        compares(Codes.FLOAT, Codes.bitsOf(1f), Codes.bitsOf(Float.NaN), -1, 1);
        compares(Codes.DOUBLE, Codes.bitsOf(Double.NaN), Codes.bitsOf(Double.NaN), -1, 1);
    }

    private static void floatingCalculations() {
        floats(Codes.ADD, 0.1f, 0.2f, 0.3f);
        floats(Codes.SUB, 1f, 1f, 0f);
        floats(Codes.ADD, -0f, -0f, -0f);
        floats(Codes.ADD, -0f, 0f, 0f);
        floats(Codes.SUB, -0f, 0f, -0f);
        floats(Codes.MUL, Float.MIN_VALUE, 0.5f, 0f);
        floats(Codes.MUL, Float.MIN_VALUE, 0.75f, Float.MIN_VALUE);
        floats(Codes.MUL, Float.MAX_VALUE, -2f, Float.NEGATIVE_INFINITY);
        floats(Codes.DIV, 1f, -0f, Float.NEGATIVE_INFINITY);
        floats(Codes.DIV, 0f, 0f, Float.NaN);
        floats(Codes.DIV, 1f, 3f, 1f / 3f);
        floats(Codes.REM, -7.5f, 2f, -1.5f);
        floats(Codes.REM, 6f, -2f, 0f);
        floats(Codes.REM, -6f, 2f, -0f);
        floats(Codes.REM, 5f, 0f, Float.NaN);
        doubles(Codes.ADD, 0.1, 0.2, 0.30000000000000004);
        doubles(Codes.ADD, 1.0, 0x1p-53, 1.0);
        doubles(Codes.ADD, 1.0, 0x1.0000000000001p-53, 0x1.0000000000001p0);
        doubles(Codes.ADD, Double.MAX_VALUE, 0x1p970, Double.POSITIVE_INFINITY);
        doubles(Codes.ADD, Double.POSITIVE_INFINITY, Double.NEGATIVE_INFINITY, Double.NaN);
        doubles(Codes.SUB, 0x1p-1022, Double.MIN_VALUE, 0x0.fffffffffffffp-1022);
        doubles(Codes.MUL, 0.1, 0.1, 0.010000000000000002);
        doubles(Codes.MUL, Double.POSITIVE_INFINITY, 0.0, Double.NaN);
        doubles(Codes.MUL, 0x1.8p-1074, 0.5, 0x1p-1074);
        doubles(Codes.DIV, 1.0, 3.0, 1.0 / 3.0);
        doubles(Codes.DIV, Double.MIN_VALUE, Double.MAX_VALUE, 0.0);
        doubles(Codes.DIV, Double.POSITIVE_INFINITY, Double.POSITIVE_INFINITY, Double.NaN);
        doubles(Codes.REM, Double.MAX_VALUE, Double.MIN_VALUE, 0.0);
        doubles(Codes.REM, Double.MAX_VALUE, 0.7, Double.MAX_VALUE % 0.7);
        doubles(Codes.REM, -5.0, Double.POSITIVE_INFINITY, -5.0);
        doubles(Codes.REM, Double.POSITIVE_INFINITY, 5.0, Double.NaN);
    }

    private static void leastAndGreatest() {
        floats(Codes.LEAST, 0f, -0f, -0f);
        floats(Codes.GREATEST, -0f, 0f, 0f);
        floats(Codes.LEAST, 1f, Float.NaN, Float.NaN);
        floats(Codes.GREATEST, Float.NaN, 1f, Float.NaN);
        floats(Codes.LEAST, -1f, -2f, -2f);
        doubles(Codes.LEAST, -0.0, 0.0, -0.0);
        doubles(Codes.GREATEST, 0.0, -0.0, 0.0);
        doubles(Codes.LEAST, Double.NaN, Double.NEGATIVE_INFINITY, Double.NaN);
        doubles(Codes.GREATEST, -1.0, -2.0, -1.0);
        doubles(Codes.GREATEST, Double.MIN_VALUE, Double.POSITIVE_INFINITY, Double.POSITIVE_INFINITY);
    }

    private static void divisionByZero() {
        for (int kind = Codes.INT; kind <= Codes.LONG; kind++) {
            ShadowMachine x = new ShadowMachine();
            x.input(0, kind, 10, 0);
            x.input(1, kind, 0, 1);
            x.input(2, Codes.DOUBLE, Codes.bitsOf(2.5), 2);
            Check.due("DIV by 0", x.two(Codes.DIV, 2, 0, 1), ShadowMachine.ARITHMETIC);
            Check.due("REM by 0", x.two(Codes.REM, 2, 0, 1), ShadowMachine.ARITHMETIC);
            Check.register(x, 2, Codes.DOUBLE, Codes.bitsOf(2.5), 68);
            Check.register(x, 0, kind, 10, 65);
            Check.register(x, 1, kind, 0, 66);
            Check.counts(x, 0, 0, 2, 3);
            Check.due("0 / 0", x.two(Codes.DIV, 1, 1, 1), ShadowMachine.ARITHMETIC);
            Check.due("MUL by 0 throws nothing", x.two(Codes.MUL, 2, 0, 1), ShadowMachine.OK);
        }
    }

    private static void followedShadows() {
        for (int operation = 20; operation <= 34; operation++) {
            for (int kind = 0; kind < 4; kind++) {
                boolean given = kind > 1 && operation <= 24;
                if (!given) {
                    followed(operation, kind);
                }
            }
        }
    }

    private static void followed(int operation, int kind) {
        boolean shift = operation >= 27 && operation <= 29;
        ShadowMachine x = new ShadowMachine();
        x.input(0, kind, 3, 0);
        x.input(1, shift ? Codes.INT : kind, 2, 5);
        x.constant(2, shift ? Codes.INT : kind, 2);
        if (x.two(operation, 3, 0, 1) != ShadowMachine.OK) {
            return;
        }
        boolean mixes = operation >= 22 && operation <= 24;
        Check.due("shadow of " + operation + " of two inputs", x.shadow(3), mixes ? 33 : 97);
        x.two(operation, 3, 0, 2);
        Check.due("shadow of " + operation + " of an input and a constant", x.shadow(3), 65);
        x.constant(4, kind, 3);
        x.two(operation, 3, 4, 1);
        Check.due("shadow of " + operation + " of a constant and an input", x.shadow(3), 96);
        x.two(operation, 3, 4, 2);
        Check.due("shadow of " + operation + " of two constants", x.shadow(3), 64);
        Check.counts(x, 0, 0, 0, 2);
        inexactIsHandedOn(operation, kind, shift);
    }

    private static void inexactIsHandedOn(int operation, int kind, boolean shift) {
        ShadowMachine x = new ShadowMachine();
        x.input(0, Codes.LONG, 3, 0);
        x.two(Codes.MUL, 0, 0, 0);
        Check.due("shadow of a square", x.shadow(0), 1);
        int[] toKind = {Codes.L2I, Codes.NEG, Codes.L2F, Codes.L2D};
        x.one(toKind[kind], 0, 0);
        x.constant(1, shift ? Codes.INT : kind, 2);
        Check.due("two", x.two(operation, 3, 0, 1), ShadowMachine.OK);
        Check.due("shadow of " + operation + " of an inexact one", x.shadow(3), 1);
    }

    private static void pinnedOperands() {
        for (int operation = 20; operation <= 24; operation++) {
            for (int kind = Codes.FLOAT; kind <= Codes.DOUBLE; kind++) {
                ShadowMachine x = new ShadowMachine();
                x.input(0, kind, 0, 0);
                x.input(1, kind, 0, 4);
                x.input(2, Codes.INT, 0, 2);
                Check.due("two", x.two(operation, 2, 0, 1), ShadowMachine.OK);
                Check.due("shadow(0)", x.shadow(0), 64);
                Check.due("shadow(1)", x.shadow(1), 64);
                Check.due("shadow(2)", x.shadow(2), 64);
                Check.pin(x, 0, operation, 16);
                Check.pin(x, 1, operation, 1);
                Check.counts(x, 2, 0, 0, 0);
                x.two(operation, 3, 0, 1);
                Check.counts(x, 2, 0, 0, 0);
            }
        }
    }

    private static void ontoItself() {
        ShadowMachine x = new ShadowMachine();
        x.input(0, Codes.FLOAT, Codes.bitsOf(3f), 1);
        Check.due("two(22, 0, 0, 0)", x.two(Codes.MUL, 0, 0, 0), ShadowMachine.OK);
        Check.register(x, 0, Codes.FLOAT, Codes.bitsOf(9f), 64);
        Check.counts(x, 1, 0, 0, 0);
        Check.pin(x, 0, Codes.MUL, 2);
        x.input(1, Codes.INT, 6, 1);
        x.two(Codes.SUB, 1, 1, 1);
        Check.register(x, 1, Codes.INT, 0, 66);
        x.two(Codes.LEAST, 1, 1, 1);
        Check.due("shadow(1)", x.shadow(1), 66);
    }

    private static boolean isTaken(int operation, int kind, int otherKind) {
        if (operation >= 27 && operation <= 29) {
            return kind < 2 && otherKind == Codes.INT;
        }
        if (operation < 20 || operation > 34 || kind != otherKind) {
            return false;
        }
        return operation < 27 || operation < 33 && kind < 2 || operation >= 33 && kind > 0;
    }

    private static void kindsTaken() {
        for (int operation = -2; operation < 45; operation++) {
            for (int pair = 0; pair < 16; pair++) {
                ShadowMachine x = new ShadowMachine();
                x.input(0, pair / 4, 1, 0);
                x.input(1, pair % 4, 1, 1);
                String before = Check.state(x);
                boolean taken = isTaken(operation, pair / 4, pair % 4);
                String call = "two(" + operation + ", 2, 0, 1) of kinds " + pair / 4 + " and " + pair % 4;
                Check.due(call, x.two(operation, 2, 0, 1), taken ? ShadowMachine.OK : ShadowMachine.REFUSED);
                if (taken) {
                    Check.due("kind(2)", x.kind(2), operation >= 33 ? Codes.INT : pair / 4);
                } else {
                    Check.holds("a refused two changes nothing", before.equals(Check.state(x)));
                }
            }
        }
    }

    private static void refusals() {
        ShadowMachine x = new ShadowMachine();
        for (int wrong : Codes.BELOW_AND_ABOVE_REGISTERS) {
            Check.due("two of a wrong r", x.two(Codes.ADD, wrong, 0, 0), ShadowMachine.REFUSED);
            Check.due("two of a wrong a", x.two(Codes.ADD, 0, wrong, 0), ShadowMachine.REFUSED);
            Check.due("two of a wrong b", x.two(Codes.ADD, 0, 0, wrong), ShadowMachine.REFUSED);
            Check.due("a wrong r is told before a division by 0", x.two(Codes.DIV, wrong, 0, 0), ShadowMachine.REFUSED);
        }
        x.constant(1, Codes.LONG, 0);
        Check.due("a wrong KIND is told before a division by 0", x.two(Codes.DIV, 2, 0, 1), ShadowMachine.REFUSED);
        Check.due("two(min)", x.two(Integer.MIN_VALUE, 0, 0, 0), ShadowMachine.REFUSED);
        Check.due("two(max)", x.two(Integer.MAX_VALUE, 0, 0, 0), ShadowMachine.REFUSED);
        Check.counts(x, 0, 0, 0, 0);
    }
}

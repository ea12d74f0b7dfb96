/** "Terms": KINDS, BITS, REGISTERS and INPUTS. */
public final class BoundaryTermsValuesTest {
    private static final String NANS = "All values that are not a number (NaN) of a KIND count as one, with the BITS 0x7FC00000"
        + " and 0x7FF8000000000000.";
    private static final String REGISTERS = "REGISTERS 0 .. 7 each hold a value, INT 0 at first.";
    private static final String INPUTS = "INPUTS are 0 .. 5.";

    private static final long FLOAT_NAN = 0x7FC00000L;
    private static final long DOUBLE_NAN = 0x7FF8000000000000L;
    private static final long[] FLOAT_NANS = {0x7F800001L, 0x7FBFFFFFL, 0x7FC00001L, 0x7FFFFFFFL, 0xFF800001L, 0xFFC00000L, 0xFFFFFFFFL};
    private static final long[] DOUBLE_NANS = {
        0x7FF0000000000001L, 0x7FF7FFFFFFFFFFFFL, 0x7FF8000000000001L, 0x7FFFFFFFFFFFFFFFL, 0xFFF0000000000001L, 0xFFF8000000000000L, -1
    };

    public static void main(String[] args) {
        Boundary.run(BoundaryTermsValuesTest.class);
    }

    private static void keeps(int kind, long given, long kept) {
        ShadowMachine x = new ShadowMachine();
        Check.due("constant of " + given, x.constant(0, kind, given), ShadowMachine.OK);
        Check.register(x, 0, kind, kept, 64);
    }

    @Sentence(at = Sentence.TERMS, says = "KINDS: 0 INT, 1 LONG, 2 FLOAT, 3 DOUBLE.")
    static void firstAndLastKind() {
        keeps(0, 1L << 32, 0);
        keeps(1, 1L << 32, 1L << 32);
        keeps(2, 1L << 32, 0);
        keeps(3, 1L << 32, 1L << 32);
        for (int kind : Boundary.beside(0, 3)) {
            Boundary.refused("constant of KIND " + kind, Given::busy, x -> x.constant(0, kind, 1));
            Boundary.refused("input of KIND " + kind, Given::busy, x -> x.input(0, kind, 1, 0));
        }
    }

    @Sentence(at = Sentence.TERMS, says = "BITS of a value, as a long: of an INT its number;")
    static void leastAndGreatestInt() {
        keeps(Codes.INT, Integer.MIN_VALUE, Integer.MIN_VALUE);
        keeps(Codes.INT, Integer.MAX_VALUE, Integer.MAX_VALUE);
        keeps(Codes.INT, -1, -1);
    }

    @Sentence(at = Sentence.TERMS, says = "of a LONG itself;")
    static void leastAndGreatestLong() {
        keeps(Codes.LONG, Long.MIN_VALUE, Long.MIN_VALUE);
        keeps(Codes.LONG, Long.MAX_VALUE, Long.MAX_VALUE);
        keeps(Codes.LONG, Integer.MAX_VALUE + 1L, 2147483648L);
    }

    @Sentence(at = Sentence.TERMS, says = "of a FLOAT its 32 bits (of the format with 24 bits of precision) read as an int;")
    static void floatWithASignIsBelowZero() {
        keeps(Codes.FLOAT, 0x80000000L, Integer.MIN_VALUE);
        keeps(Codes.FLOAT, 0xFF800000L, -8388608);
        keeps(Codes.FLOAT, 0x7F800000L, 0x7F800000);
        keeps(Codes.FLOAT, 0x7F7FFFFFL, Codes.bitsOf(Float.MAX_VALUE));
        keeps(Codes.FLOAT, 1, Codes.bitsOf(Float.MIN_VALUE));
    }

    @Sentence(at = Sentence.TERMS, says = "of a FLOAT its 32 bits (of the format with 24 bits of precision) read as an int;")
    static void twentyFourBitsAreKeptAndTwentyFiveRounded() {
        Boundary.one(Codes.I2F, Codes.INT, 0xFFFFFF, Codes.FLOAT, 0x4B7FFFFFL);
        Boundary.one(Codes.I2F, Codes.INT, 0x1000001, Codes.FLOAT, 0x4B800000L);
        Boundary.one(Codes.I2F, Codes.INT, 0x1000003, Codes.FLOAT, 0x4B800002L);
    }

    @Sentence(at = Sentence.TERMS, says = "of a DOUBLE its 64 bits.")
    static void doubleWithASignIsBelowZero() {
        keeps(Codes.DOUBLE, Long.MIN_VALUE, Codes.bitsOf(-0.0));
        keeps(Codes.DOUBLE, 0xFFF0000000000000L, Codes.bitsOf(Double.NEGATIVE_INFINITY));
        keeps(Codes.DOUBLE, 0x7FF0000000000000L, Codes.bitsOf(Double.POSITIVE_INFINITY));
        keeps(Codes.DOUBLE, 0x7FEFFFFFFFFFFFFFL, Codes.bitsOf(Double.MAX_VALUE));
        keeps(Codes.DOUBLE, 1, Codes.bitsOf(Double.MIN_VALUE));
    }

    @Sentence(at = Sentence.TERMS, says = NANS)
    static void everyNanThatIsGivenIsOne() {
        for (int i = 0; i < FLOAT_NANS.length; i++) {
            keeps(Codes.FLOAT, FLOAT_NANS[i], FLOAT_NAN);
            keeps(Codes.DOUBLE, DOUBLE_NANS[i], DOUBLE_NAN);
            ShadowMachine x = new ShadowMachine();
            x.input(0, Codes.FLOAT, FLOAT_NANS[i], 0);
            x.input(1, Codes.DOUBLE, DOUBLE_NANS[i], 1);
            Check.register(x, 0, Codes.FLOAT, FLOAT_NAN, 65);
            Check.register(x, 1, Codes.DOUBLE, DOUBLE_NAN, 66);
        }
    }

    @Sentence(at = Sentence.TERMS, says = NANS)
    static void everyNanFromBitsIsOne() {
        for (int i = 0; i < FLOAT_NANS.length; i++) {
            Boundary.one(Codes.FROM_BITS, Codes.INT, FLOAT_NANS[i], Codes.FLOAT, FLOAT_NAN);
            Boundary.one(Codes.FROM_BITS, Codes.LONG, DOUBLE_NANS[i], Codes.DOUBLE, DOUBLE_NAN);
        }
    }

    @Sentence(at = Sentence.TERMS, says = NANS)
    static void everyNanThatComesOutIsOne() {
        Boundary.two(Codes.DIV, Codes.FLOAT, 0, 0, FLOAT_NAN);
        Boundary.two(Codes.DIV, Codes.DOUBLE, 0, 0, DOUBLE_NAN);
        Boundary.one(Codes.NEG, Codes.FLOAT, FLOAT_NAN, Codes.FLOAT, FLOAT_NAN);
        Boundary.one(Codes.NEG, Codes.DOUBLE, DOUBLE_NAN, Codes.DOUBLE, DOUBLE_NAN);
        Boundary.one(Codes.F2D, Codes.FLOAT, 0xFFC12345L, Codes.DOUBLE, DOUBLE_NAN);
        Boundary.one(Codes.D2F, Codes.DOUBLE, 0xFFF8123456789ABCL, Codes.FLOAT, FLOAT_NAN);
        Boundary.one(Codes.TO_BITS, Codes.FLOAT, 0xFF800001L, Codes.INT, FLOAT_NAN);
        Boundary.one(Codes.TO_BITS, Codes.DOUBLE, 0xFFF0000000000001L, Codes.LONG, DOUBLE_NAN);
    }

    @Sentence(at = Sentence.TERMS, says = NANS)
    static void theInfinitiesBesideThemAreNumbers() {
        keeps(Codes.FLOAT, 0x7F800000L, 0x7F800000L);
        keeps(Codes.FLOAT, 0xFF800000L, 0xFFFFFFFFFF800000L);
        keeps(Codes.DOUBLE, 0x7FF0000000000000L, 0x7FF0000000000000L);
        keeps(Codes.DOUBLE, 0xFFF0000000000000L, 0xFFF0000000000000L);
    }

    @Sentence(at = Sentence.TERMS, says = NANS)
    static void intAndLongHaveNoNan() {
        keeps(Codes.INT, 0xFFC00001L, 0xFFFFFFFFFFC00001L);
        keeps(Codes.LONG, 0x7FF0000000000001L, 0x7FF0000000000001L);
    }

    @Sentence(at = Sentence.TERMS, says = REGISTERS)
    static void allEightHoldIntZeroAtFirst() {
        ShadowMachine x = new ShadowMachine();
        for (int r = 0; r < 8; r++) {
            Check.register(x, r, Codes.INT, 0, 64);
        }
    }

    @Sentence(at = Sentence.TERMS, says = REGISTERS)
    static void firstAndLastRegisterHoldTheirOwnValues() {
        ShadowMachine x = new ShadowMachine();
        for (int r = 0; r < 8; r++) {
            Check.due("constant(" + r + ")", x.constant(r, Codes.LONG, r - 4), ShadowMachine.OK);
        }
        for (int r = 0; r < 8; r++) {
            Check.register(x, r, Codes.LONG, r - 4, 64);
        }
    }

    @Sentence(at = Sentence.TERMS, says = REGISTERS)
    static void thereIsNoRegisterBesideThem() {
        for (int r : Boundary.beside(0, 7)) {
            Boundary.refused("constant(" + r + ")", Given::busy, x -> x.constant(r, Codes.INT, 1));
            Boundary.refused("kind(" + r + ")", Given::busy, x -> x.kind(r));
        }
    }

    @Sentence(at = Sentence.TERMS, says = INPUTS)
    static void firstAndLastInput() {
        ShadowMachine x = new ShadowMachine();
        Check.due("input 0", x.input(0, Codes.INT, 1, 0), ShadowMachine.OK);
        Check.due("input 5", x.input(1, Codes.INT, 1, 5), ShadowMachine.OK);
        Check.due("shadow(0)", x.shadow(0), 64 + 1);
        Check.due("shadow(1)", x.shadow(1), 64 + 32);
    }

    @Sentence(at = Sentence.TERMS, says = INPUTS)
    static void thereIsNoInputBesideThem() {
        for (int k : new int[] {-1, 6, 31, 32, 37, Integer.MIN_VALUE, Integer.MAX_VALUE}) {
            Boundary.refused("input " + k, Given::busy, x -> x.input(0, Codes.INT, 1, k));
        }
    }
}

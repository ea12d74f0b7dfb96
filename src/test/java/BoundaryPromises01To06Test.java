/** Promises 1 to 6: a new object, constant, input, one, two, move. */
public final class BoundaryPromises01To06Test {
    private static final String P1 = "Promise 1";
    private static final String P2 = "Promise 2";
    private static final String P3 = "Promise 3";
    private static final String P4 = "Promise 4";
    private static final String P5 = "Promise 5";
    private static final String P6 = "Promise 6";
    private static final String LOW_32 = "with these BITS (INT and FLOAT: the low 32);";
    private static final String AS_CONSTANT = "As constant,";
    private static final String INPUT_ALONE = "but with the SHADOW of INPUT k 0 .. 5 alone, EXACT: OK.";
    private static final String ONE_REGISTERS = "of REGISTER a into REGISTER r: OK.";
    private static final String TWO_REGISTERS = "of REGISTERS a and b into REGISTER r: OK or ARITHMETIC.";
    private static final String MOVE = "REGISTER r becomes a copy of a, SHADOW too: OK.";

    public static void main(String[] args) {
        Boundary.run(BoundaryPromises01To06Test.class);
    }

    @Sentence(at = P1, says = "REGISTERS INT 0,")
    static void newRegisters() {
        ShadowMachine x = new ShadowMachine();
        for (int r = 0; r < 8; r++) {
            Check.register(x, r, Codes.INT, 0, 64);
        }
    }

    @Sentence(at = P1, says = "ARRAYS null,")
    static void newArrays() {
        ShadowMachine x = new ShadowMachine();
        for (int h = 0; h < 4; h++) {
            for (int what = 0; what < 3; what++) {
                Check.due("cell(" + h + ", 0, " + what + ")", x.cell(h, 0, what), ShadowMachine.NONE);
            }
            Check.due("length", x.length(0, h), ShadowMachine.NULL);
        }
    }

    @Sentence(at = P1, says = "nothing noted.")
    static void newNotes() {
        ShadowMachine x = new ShadowMachine();
        for (int k = 0; k < 17; k++) {
            Check.due("pin(" + k + ", 0)", x.pin(k, 0), ShadowMachine.NONE);
            Check.due("pin(" + k + ", 1)", x.pin(k, 1), ShadowMachine.NONE);
            for (int what = 0; what < 3; what++) {
                Check.due("way(" + k + ", " + what + ")", x.way(k, what), ShadowMachine.NONE);
            }
        }
        Check.counts(x, 0, 0, 0, 0);
    }

    @Sentence(at = P1, says = "nothing noted.")
    static void aNewObjectAfterABusyOne() {
        String before = Check.state(new ShadowMachine());
        ShadowMachine busy = Given.busy();
        ShadowMachine x = new ShadowMachine();
        Check.holds("a new object is as the first", before.equals(Check.state(x)));
        x.constant(3, Codes.INT, 9);
        Check.register(busy, 3, Codes.DOUBLE, Codes.bitsOf(2.5), 72);
    }

    @Sentence(at = P2, says = "REGISTER r 0 .. 7")
    static void constantIntoTheFirstAndTheLast() {
        for (int r : new int[] {0, 7}) {
            ShadowMachine x = new ShadowMachine();
            Check.due("constant(" + r + ")", x.constant(r, Codes.LONG, -3), ShadowMachine.OK);
            Check.register(x, r, Codes.LONG, -3, 64);
            Check.register(x, 7 - r, Codes.INT, 0, 64);
        }
        for (int r : Boundary.beside(0, 7)) {
            Boundary.refused("constant(" + r + ")", Given::busy, x -> x.constant(r, Codes.LONG, -3));
        }
    }

    @Sentence(at = P2, says = "gets a value of a KIND 0 .. 3")
    static void constantOfTheFirstAndTheLastKind() {
        for (int kind = 0; kind < 4; kind++) {
            ShadowMachine x = new ShadowMachine();
            Check.due("constant of KIND " + kind, x.constant(0, kind, 5), ShadowMachine.OK);
            Check.register(x, 0, kind, 5, 64);
        }
        for (int kind : Boundary.beside(0, 3)) {
            Boundary.refused("constant of KIND " + kind, Given::busy, x -> x.constant(0, kind, 5));
        }
    }

    private static void keeps(int kind, long given, long kept) {
        ShadowMachine x = new ShadowMachine();
        Check.due("constant", x.constant(2, kind, given), ShadowMachine.OK);
        Check.register(x, 2, kind, kept, 64);
    }

    @Sentence(at = P2, says = LOW_32)
    static void theHighBitsOfIntAndFloatAreLeftOut() {
        keeps(Codes.INT, 1L << 32, 0);
        keeps(Codes.INT, 0x7FFFFFFFL, Integer.MAX_VALUE);
        keeps(Codes.INT, 0x80000000L, Integer.MIN_VALUE);
        keeps(Codes.INT, 0xFFFFFFFFL, -1);
        keeps(Codes.INT, Long.MIN_VALUE, 0);
        keeps(Codes.INT, Long.MAX_VALUE, -1);
        keeps(Codes.FLOAT, 1L << 32, 0);
        keeps(Codes.FLOAT, 0xFFFFFFFF00000001L, 1);
        keeps(Codes.FLOAT, 0x80000000L, Integer.MIN_VALUE);
        keeps(Codes.FLOAT, Long.MAX_VALUE, 0x7FC00000L);
        keeps(Codes.FLOAT, 0x7FF8000000000000L, 0);
    }

    @Sentence(at = P2, says = LOW_32)
    static void longAndDoubleKeepAllBits() {
        keeps(Codes.LONG, Long.MIN_VALUE, Long.MIN_VALUE);
        keeps(Codes.LONG, 0x100000000L, 0x100000000L);
        keeps(Codes.DOUBLE, 0x100000000L, 0x100000000L);
        keeps(Codes.DOUBLE, 0x7FC00001L, 0x7FC00001L);
        keeps(Codes.DOUBLE, Long.MIN_VALUE, Long.MIN_VALUE);
    }

    @Sentence(at = P2, says = "its SHADOW is empty: OK.")
    static void constantEmptiesASetThatIsNotExact() {
        ShadowMachine x = Given.busy();
        Check.due("constant", x.constant(5, Codes.INT, 2), ShadowMachine.OK);
        Check.register(x, 5, Codes.INT, 2, 64);
        Check.counts(x, 1, 2, 1, 5);
    }

    @Sentence(at = P3, says = AS_CONSTANT)
    static void inputOfTheEnds() {
        ShadowMachine x = new ShadowMachine();
        Check.due("input(7)", x.input(7, Codes.INT, 0x180000000L, 0), ShadowMachine.OK);
        Check.register(x, 7, Codes.INT, Integer.MIN_VALUE, 65);
        Check.due("input(0)", x.input(0, Codes.FLOAT, 0x17F800001L, 1), ShadowMachine.OK);
        Check.register(x, 0, Codes.FLOAT, 0x7FC00000L, 66);
        Check.due("input(1)", x.input(1, Codes.LONG, Long.MIN_VALUE, 2), ShadowMachine.OK);
        Check.register(x, 1, Codes.LONG, Long.MIN_VALUE, 68);
        Check.due("input(2)", x.input(2, Codes.DOUBLE, -1, 3), ShadowMachine.OK);
        Check.register(x, 2, Codes.DOUBLE, 0x7FF8000000000000L, 72);
    }

    @Sentence(at = P3, says = AS_CONSTANT)
    static void inputBesideTheEnds() {
        for (int r : Boundary.beside(0, 7)) {
            Boundary.refused("input(" + r + ")", Given::busy, x -> x.input(r, Codes.INT, 1, 0));
        }
        for (int kind : Boundary.beside(0, 3)) {
            Boundary.refused("input of KIND " + kind, Given::busy, x -> x.input(0, kind, 1, 0));
        }
    }

    @Sentence(at = P3, says = INPUT_ALONE)
    static void eachInputAlone() {
        for (int k = 0; k < 6; k++) {
            ShadowMachine x = Given.busy();
            Check.due("input " + k, x.input(5, Codes.INT, 1, k), ShadowMachine.OK);
            Check.due("shadow where a set stood that was not EXACT", x.shadow(5), 64 + (1 << k));
        }
    }

    @Sentence(at = P3, says = INPUT_ALONE)
    static void inputsBesideTheSix() {
        for (int k : new int[] {-1, 6, 32, 64, Integer.MIN_VALUE, Integer.MAX_VALUE}) {
            Boundary.refused("input " + k, Given::busy, x -> x.input(0, Codes.INT, 1, k));
        }
    }

    @Sentence(at = P4, says = "OPERATION 0 .. 18")
    static void theFirstAndTheLastOperationOfOne() {
        ShadowMachine x = Given.constants(Codes.INT, -1);
        Check.due("one(0)", x.one(0, 1, 0), ShadowMachine.OK);
        Check.register(x, 1, Codes.LONG, -1, 64);
        Check.due("one(18)", x.one(18, 1, 0), ShadowMachine.OK);
        Check.register(x, 1, Codes.FLOAT, 0x7FC00000L, 64);
        for (int operation : new int[] {-1, 19, 20, Integer.MIN_VALUE, Integer.MAX_VALUE}) {
            for (int a = 0; a < 4; a++) {
                int operand = a;
                Boundary.refused("one(" + operation + ") of KIND " + a, Given::busy, y -> y.one(operation, 6, operand));
            }
        }
    }

    @Sentence(at = P4, says = ONE_REGISTERS)
    static void oneOfAndIntoTheFirstAndTheLastRegister() {
        ShadowMachine x = new ShadowMachine();
        x.input(7, Codes.INT, 5, 2);
        Check.due("one(NEG, 0, 7)", x.one(Codes.NEG, 0, 7), ShadowMachine.OK);
        Check.register(x, 0, Codes.INT, -5, 68);
        Check.due("one(I2L, 7, 0)", x.one(Codes.I2L, 7, 0), ShadowMachine.OK);
        Check.register(x, 7, Codes.LONG, -5, 68);
        for (int r : Boundary.beside(0, 7)) {
            Boundary.refused("one into " + r, Given::busy, y -> y.one(Codes.NEG, r, 0));
            Boundary.refused("one of " + r, Given::busy, y -> y.one(Codes.NEG, 0, r));
        }
    }

    @Sentence(at = P5, says = "OPERATION 20 .. 34")
    static void theFirstAndTheLastOperationOfTwo() {
        ShadowMachine x = Given.constants(Codes.LONG, 3, 4);
        Check.due("two(20)", x.two(20, 2, 0, 1), ShadowMachine.OK);
        Check.register(x, 2, Codes.LONG, 7, 64);
        Check.due("two(34)", x.two(34, 2, 0, 1), ShadowMachine.OK);
        Check.register(x, 2, Codes.INT, -1, 64);
        for (int operation : new int[] {-1, 18, 19, 35, 40, Integer.MIN_VALUE, Integer.MAX_VALUE}) {
            for (int a = 0; a < 4; a++) {
                int operand = a;
                Boundary.refused("two(" + operation + ") of KIND " + a, Given::busy, y -> y.two(operation, 6, operand, operand));
            }
        }
    }

    @Sentence(at = P5, says = TWO_REGISTERS)
    static void twoOfAndIntoTheFirstAndTheLastRegister() {
        ShadowMachine x = new ShadowMachine();
        x.input(0, Codes.INT, 9, 0);
        x.input(7, Codes.INT, 5, 5);
        Check.due("two(SUB, 7, 0, 7)", x.two(Codes.SUB, 7, 0, 7), ShadowMachine.OK);
        Check.register(x, 7, Codes.INT, 4, 64 + 33);
        Check.due("two(SUB, 0, 7, 0)", x.two(Codes.SUB, 0, 7, 0), ShadowMachine.OK);
        Check.register(x, 0, Codes.INT, -5, 64 + 33);
        for (int r : Boundary.beside(0, 7)) {
            Boundary.refused("two into " + r, Given::busy, y -> y.two(Codes.ADD, r, 0, 4));
            Boundary.refused("two of a " + r, Given::busy, y -> y.two(Codes.ADD, 6, r, 4));
            Boundary.refused("two of b " + r, Given::busy, y -> y.two(Codes.ADD, 6, 0, r));
        }
    }

    @Sentence(at = P5, says = TWO_REGISTERS)
    static void twoThatAnswersArithmetic() {
        Boundary.exception("DIV by 0", Given::busy, x -> x.two(Codes.DIV, 0, 0, 6), ShadowMachine.ARITHMETIC);
        Boundary.exception("REM by 0", Given::busy, x -> x.two(Codes.REM, 6, 6, 6), ShadowMachine.ARITHMETIC);
        ShadowMachine x = Given.busy();
        Check.due("DIV by 1", x.two(Codes.DIV, 0, 4, 7), ShadowMachine.OK);
        Check.register(x, 0, Codes.INT, 2, 80);
    }

    @Sentence(at = P6, says = MOVE)
    static void moveOfEveryKindAndShadow() {
        for (int a = 0; a < 8; a++) {
            ShadowMachine x = Given.busy();
            int r = (a + 1) % 8;
            Check.due("move(" + r + ", " + a + ")", x.move(r, a), ShadowMachine.OK);
            Check.register(x, r, x.kind(a), x.bits(a), x.shadow(a));
            ShadowMachine y = Given.busy();
            Check.register(x, a, y.kind(a), y.bits(a), y.shadow(a));
        }
    }

    @Sentence(at = P6, says = MOVE)
    static void moveOntoItselfAndOfTheEmpty() {
        for (int r : new int[] {0, 5, 7}) {
            int both = r;
            Boundary.unchanged("move(" + r + ", " + r + ")", Given::busy, x -> x.move(both, both), ShadowMachine.OK);
        }
        ShadowMachine x = Given.busy();
        x.move(5, 6);
        Check.register(x, 5, Codes.INT, 0, 64);
    }

    @Sentence(at = P6, says = MOVE)
    static void theCopyIsPinnedByItself() {
        ShadowMachine x = Given.busy();
        x.move(6, 2);
        x.two(Codes.ADD, 7, 2, 2);
        Check.due("shadow of the PINNED", x.shadow(2), 64);
        Check.due("shadow of its copy", x.shadow(6), 68);
    }

    @Sentence(at = P6, says = MOVE)
    static void moveBesideTheEnds() {
        for (int r : Boundary.beside(0, 7)) {
            Boundary.refused("move into " + r, Given::busy, x -> x.move(r, 0));
            Boundary.refused("move of " + r, Given::busy, x -> x.move(0, r));
        }
    }
}

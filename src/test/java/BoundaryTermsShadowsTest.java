/** "Terms": what a SHADOW is, PINNING, and the SHADOWS of results. */
public final class BoundaryTermsShadowsTest {
    private static final String SHADOW = "A SHADOW is a set of INPUTS (answered as a sum of 2^k) and EXACT or not.";
    private static final String EMPTY_IS_EXACT = "A value with an empty set is EXACT.";
    private static final String AT_FIRST = "Each REGISTER and array cell has one, at first empty.";
    private static final String PINNING = "PINNING a REGISTER or cell whose set is not empty: a PIN is noted, with the OPERATION's"
        + " number and the set; its SHADOW becomes empty.";
    private static final String UNION = "What a result of operands has as SHADOW: the union of their sets, EXACT if they all are.";
    private static final String PINNED = "SHADOWS in them: of FLOAT and DOUBLE, 20 to 24 PIN a, then b, and the result has an"
        + " empty SHADOW;";
    private static final String FOLLOWED = "all others (the conversions, 15 to 18, 25, 26, 33, 34, too) are followed,";
    private static final String MIXED = "and the result is no more EXACT if it is of INT or LONG MUL, DIV or REM with both sets"
        + " not empty,";
    private static final String ROUNDED = "or 1, 4, 5 or 11 (which round) with a set not empty.";
    private static final String THROWN = "If DIV or REM throws, r and its SHADOW stay.";

    private static final int[] ROUNDING = {Codes.I2F, Codes.L2F, Codes.L2D, Codes.D2F};
    private static final int[] ROUNDED_KINDS = {Codes.INT, Codes.LONG, Codes.LONG, Codes.DOUBLE};
    private static final int[] EXACT_CONVERSIONS = {
        Codes.I2L, Codes.I2D, Codes.L2I, Codes.F2I, Codes.F2L, Codes.F2D, Codes.D2I, Codes.D2L, Codes.I2B, Codes.I2C, Codes.I2S
    };
    private static final int[] CONVERTED_KINDS = {
        Codes.INT, Codes.INT, Codes.LONG, Codes.FLOAT, Codes.FLOAT, Codes.FLOAT, Codes.DOUBLE, Codes.DOUBLE, Codes.INT, Codes.INT, Codes.INT
    };

    public static void main(String[] args) {
        Boundary.run(BoundaryTermsShadowsTest.class);
    }

    /** REGISTER 0 of a KIND has a set of INPUTS and is EXACT. */
    private static ShadowMachine withSet(int kind, int set) {
        ShadowMachine x = Given.constants(kind, 0);
        for (int k = 0; k < 6; k++) {
            if ((set >> k & 1) == 1) {
                x.input(1, kind, 0, k);
                x.two(Codes.LEAST, 0, 0, 1);
            }
        }
        return x;
    }

    /** REGISTER 0 of a KIND has the set of INPUT 3 alone and is not EXACT. */
    private static ShadowMachine inexact(int kind) {
        ShadowMachine x = Given.constants(Codes.LONG, 0);
        x.input(0, Codes.LONG, 3, 3);
        x.two(Codes.MUL, 0, 0, 0);
        int[] fromLong = {Codes.L2I, Codes.NEG, Codes.L2F, Codes.L2D};
        x.one(fromLong[kind], 0, 0);
        Check.due("shadow of what is not EXACT", x.shadow(0), 8);
        return x;
    }

    @Sentence(at = Sentence.TERMS, says = SHADOW)
    static void emptySingleAndFullSets() {
        Check.due("the empty set", withSet(Codes.INT, 0).shadow(0), 64);
        for (int k = 0; k < 6; k++) {
            Check.due("INPUT " + k + " alone", withSet(Codes.INT, 1 << k).shadow(0), 64 + (1 << k));
        }
        Check.due("all INPUTS", withSet(Codes.INT, 63).shadow(0), 64 + 63);
    }

    @Sentence(at = Sentence.TERMS, says = SHADOW)
    static void fullSetThatIsNotExact() {
        ShadowMachine x = withSet(Codes.INT, 63);
        x.two(Codes.MUL, 0, 0, 0);
        Check.due("all INPUTS, not EXACT", x.shadow(0), 63);
    }

    @Sentence(at = Sentence.TERMS, says = EMPTY_IS_EXACT)
    static void resultsOfConstantsAreExact() {
        for (int operation = 22; operation <= 24; operation++) {
            Boundary.two(operation, Codes.INT, 3, 1, operation == 24 ? 0 : 3);
            Boundary.two(operation, Codes.LONG, 3, 1, operation == 24 ? 0 : 3);
        }
        Boundary.one(Codes.I2F, Codes.INT, 16777217, Codes.FLOAT, Codes.bitsOf(16777216f));
        Boundary.one(Codes.L2F, Codes.LONG, 16777217, Codes.FLOAT, Codes.bitsOf(16777216f));
        Boundary.one(Codes.L2D, Codes.LONG, (1L << 53) + 1, Codes.DOUBLE, Codes.bitsOf(0x1p53));
        Boundary.one(Codes.D2F, Codes.DOUBLE, Codes.bitsOf(0.1), Codes.FLOAT, Codes.bitsOf(0.1f));
    }

    @Sentence(at = Sentence.TERMS, says = EMPTY_IS_EXACT)
    static void narrowCellsOfConstantsAreExact() {
        for (int sort = 0; sort < 4; sort++) {
            ShadowMachine x = Given.array(sort, 1);
            x.constant(1, Codes.INT, 65537);
            Check.due("store", x.store(0, 0, 1), ShadowMachine.OK);
            Check.due("shadow of the cell", x.cell(0, 0, 1), 64);
        }
    }

    @Sentence(at = Sentence.TERMS, says = EMPTY_IS_EXACT)
    static void whatWasNotExactIsSoWhenEmptied() {
        ShadowMachine x = inexact(Codes.DOUBLE);
        x.two(Codes.ADD, 1, 0, 0);
        Check.due("shadow of the PINNED", x.shadow(0), 64);
        Check.due("shadow of the result", x.shadow(1), 64);
        x = inexact(Codes.INT);
        x.constant(0, Codes.INT, 1);
        Check.due("shadow of the new constant", x.shadow(0), 64);
    }

    @Sentence(at = Sentence.TERMS, says = AT_FIRST)
    static void registersAreEmptyAtFirst() {
        ShadowMachine x = new ShadowMachine();
        for (int r = 0; r < 8; r++) {
            Check.due("shadow(" + r + ")", x.shadow(r), 64);
        }
        Check.due("count(3)", x.count(3), 0);
    }

    @Sentence(at = Sentence.TERMS, says = AT_FIRST)
    static void cellsAreEmptyAtFirst() {
        for (int sort = 0; sort < 8; sort++) {
            ShadowMachine x = Given.array(sort, 12);
            for (int i = 0; i < 12; i++) {
                Check.cell(x, 0, i, 0, 64);
            }
        }
    }

    @Sentence(at = Sentence.TERMS, says = PINNING)
    static void singleFullAndInexactSetsArePinned() {
        for (int set : new int[] {1, 32, 63}) {
            ShadowMachine x = withSet(Codes.FLOAT, set);
            x.constant(1, Codes.FLOAT, 0);
            x.two(Codes.SUB, 2, 0, 1);
            Check.pin(x, 0, Codes.SUB, set);
            Check.due("count(0)", x.count(0), 1);
            Check.register(x, 0, Codes.FLOAT, 0, 64);
        }
        ShadowMachine x = inexact(Codes.FLOAT);
        x.two(Codes.MUL, 2, 0, 0);
        Check.pin(x, 0, Codes.MUL, 8);
        Check.register(x, 0, Codes.FLOAT, Codes.bitsOf(9f), 64);
    }

    @Sentence(at = Sentence.TERMS, says = "(Empty: nothing.)")
    static void pinningWhatIsEmptyNotesNothing() {
        for (int operation = 20; operation <= 24; operation++) {
            ShadowMachine x = Given.constants(Codes.DOUBLE, 0, 0);
            x.two(operation, 2, 0, 1);
            Check.counts(x, 0, 0, 0, 0);
            Check.due("pin(0, 0)", x.pin(0, 0), ShadowMachine.NONE);
        }
        ShadowMachine x = Given.array(4, 1);
        x.load(1, 0, 0);
        x.store(0, 0, 1);
        Check.counts(x, 0, 0, 0, 0);
        Check.due("pin(0, 0)", x.pin(0, 0), ShadowMachine.NONE);
        Check.due("shadow(0)", x.shadow(0), 64);
    }

    @Sentence(at = Sentence.TERMS, says = UNION)
    static void unionsOfEmptyEqualAndDistinctSets() {
        ShadowMachine x = withSet(Codes.INT, 6);
        x.input(1, Codes.INT, 0, 1);
        x.two(Codes.ADD, 2, 3, 4);
        Check.due("empty and empty", x.shadow(2), 64);
        x.two(Codes.ADD, 2, 0, 3);
        Check.due("a set and empty", x.shadow(2), 64 + 6);
        x.two(Codes.ADD, 2, 3, 0);
        Check.due("empty and a set", x.shadow(2), 64 + 6);
        x.two(Codes.ADD, 2, 0, 1);
        Check.due("a set and a part of it", x.shadow(2), 64 + 6);
        x.two(Codes.ADD, 2, 0, 0);
        Check.due("a set and itself", x.shadow(2), 64 + 6);
        x.input(1, Codes.INT, 0, 5);
        x.two(Codes.ADD, 2, 0, 1);
        Check.due("two sets", x.shadow(2), 64 + 38);
    }

    @Sentence(at = Sentence.TERMS, says = UNION)
    static void oneThatIsNotExactIsEnough() {
        ShadowMachine x = inexact(Codes.INT);
        x.input(1, Codes.INT, 1, 0);
        x.two(Codes.ADD, 2, 0, 1);
        Check.due("not EXACT and EXACT", x.shadow(2), 9);
        x.two(Codes.ADD, 2, 1, 0);
        Check.due("EXACT and not EXACT", x.shadow(2), 9);
        x.two(Codes.ADD, 2, 0, 3);
        Check.due("not EXACT and empty", x.shadow(2), 8);
        x.two(Codes.ADD, 2, 3, 0);
        Check.due("empty and not EXACT", x.shadow(2), 8);
    }

    @Sentence(at = Sentence.TERMS, says = PINNED)
    static void firstAndLastPinningOperation() {
        for (int kind = Codes.FLOAT; kind <= Codes.DOUBLE; kind++) {
            for (int operation = 20; operation <= 24; operation++) {
                ShadowMachine x = Given.inputs(kind, 0, 0, 0);
                Check.due("two(" + operation + ")", x.two(operation, 2, 0, 1), ShadowMachine.OK);
                Check.pin(x, 0, operation, 2);
                Check.pin(x, 1, operation, 1);
                Check.counts(x, 2, 0, 0, 0);
            }
        }
    }

    @Sentence(at = Sentence.TERMS, says = PINNED)
    static void onlyTheOneThatIsNotEmptyIsPinned() {
        for (int dependent = 0; dependent < 2; dependent++) {
            ShadowMachine x = Given.constants(Codes.FLOAT, 0, 0);
            x.input(dependent, Codes.FLOAT, 0, 4);
            x.two(Codes.REM, 2, 0, 1);
            Check.counts(x, 1, 0, 0, 0);
            Check.pin(x, 0, Codes.REM, 16);
        }
    }

    @Sentence(at = Sentence.TERMS, says = PINNED)
    static void oneRegisterAsBothIsPinnedOnce() {
        ShadowMachine x = Given.inputs(Codes.DOUBLE, 0);
        x.two(Codes.MUL, 0, 0, 0);
        Check.counts(x, 1, 0, 0, 0);
        Check.pin(x, 0, Codes.MUL, 1);
    }

    @Sentence(at = Sentence.TERMS, says = PINNED)
    static void divisionOfFloatingNumbersByZeroPinsToo() {
        ShadowMachine x = Given.inputs(Codes.FLOAT, Codes.bitsOf(1f), 0);
        Check.due("two", x.two(Codes.DIV, 2, 0, 1), ShadowMachine.OK);
        Check.register(x, 2, Codes.FLOAT, 0x7F800000L, 64);
        Check.counts(x, 2, 0, 0, 0);
    }

    @Sentence(at = Sentence.TERMS, says = FOLLOWED)
    static void operationsOfOneAreFollowed() {
        for (int i = 0; i < EXACT_CONVERSIONS.length; i++) {
            followedOne(EXACT_CONVERSIONS[i], CONVERTED_KINDS[i]);
        }
        for (int kind = 0; kind < 4; kind++) {
            followedOne(Codes.NEG, kind);
            followedOne(Codes.ABSOLUTE, kind);
            followedOne(kind < 2 ? Codes.FROM_BITS : Codes.TO_BITS, kind);
        }
    }

    private static void followedOne(int operation, int kind) {
        ShadowMachine x = withSet(kind, 63);
        Check.due("one(" + operation + ")", x.one(operation, 2, 0), ShadowMachine.OK);
        Check.due("shadow of " + operation + " of all INPUTS", x.shadow(2), 127);
        Check.due("shadow of its operand", x.shadow(0), 127);
        Check.due("PINS of " + operation, x.count(0), 0);
        x = inexact(kind);
        x.one(operation, 2, 0);
        Check.due("shadow of " + operation + " of what is not EXACT", x.shadow(2), 8);
    }

    @Sentence(at = Sentence.TERMS, says = FOLLOWED)
    static void theFloatingOnesBesideTheFiveAreFollowed() {
        for (int kind = Codes.FLOAT; kind <= Codes.DOUBLE; kind++) {
            for (int operation : new int[] {Codes.LEAST, Codes.GREATEST, Codes.CMPL, Codes.CMPG}) {
                ShadowMachine x = Given.inputs(kind, 0, 0);
                Check.due("two(" + operation + ")", x.two(operation, 2, 0, 1), ShadowMachine.OK);
                Check.due("shadow of " + operation, x.shadow(2), 67);
                Check.counts(x, 0, 0, 0, 3);
            }
        }
    }

    @Sentence(at = Sentence.TERMS, says = FOLLOWED)
    static void intAndLongAreFollowed() {
        int[] operations = {Codes.ADD, Codes.SUB, Codes.LEAST, Codes.GREATEST, Codes.AND, Codes.OR, Codes.XOR};
        for (int operation : operations) {
            for (int kind = Codes.INT; kind <= Codes.LONG; kind++) {
                ShadowMachine x = Given.inputs(kind, 7, 2);
                Check.due("two(" + operation + ")", x.two(operation, 2, 0, 1), ShadowMachine.OK);
                Check.due("shadow of " + operation, x.shadow(2), 67);
            }
        }
        for (int operation = Codes.SHL; operation <= Codes.USHR; operation++) {
            ShadowMachine x = Given.inputs(Codes.INT, 7, 2, 0);
            x.one(Codes.I2L, 2, 2);
            x.two(operation, 3, 0, 1);
            Check.due("shadow of a shifted INT", x.shadow(3), 67);
            x.two(operation, 3, 2, 1);
            Check.due("shadow of a shifted LONG", x.shadow(3), 70);
        }
        ShadowMachine x = Given.inputs(Codes.LONG, 7, 2);
        x.two(Codes.CMPL, 2, 0, 1);
        x.two(Codes.CMPG, 3, 0, 1);
        Check.due("shadow of CMPL", x.shadow(2), 67);
        Check.due("shadow of CMPG", x.shadow(3), 67);
    }

    @Sentence(at = Sentence.TERMS, says = MIXED)
    static void bothSetsOfMulDivAndRem() {
        for (int kind = Codes.INT; kind <= Codes.LONG; kind++) {
            for (int operation = 22; operation <= 24; operation++) {
                ShadowMachine x = Given.inputs(kind, 7, 2);
                Check.due("two(" + operation + ")", x.two(operation, 2, 0, 1), ShadowMachine.OK);
                Check.due("shadow of " + operation + " of two INPUTS", x.shadow(2), 3);
                x.two(operation, 2, 0, 0);
                Check.due("shadow of " + operation + " of an INPUT and itself", x.shadow(2), 1);
                Check.due("PINS of " + operation, x.count(0), 0);
            }
        }
    }

    @Sentence(at = Sentence.TERMS, says = MIXED)
    static void oneSetOfMulDivAndRemStaysExact() {
        for (int kind = Codes.INT; kind <= Codes.LONG; kind++) {
            for (int operation = 22; operation <= 24; operation++) {
                ShadowMachine x = Given.constants(kind, 7, 2);
                x.input(2, kind, 5, 3);
                x.two(operation, 3, 0, 2);
                Check.due("shadow of " + operation + " of a constant and an INPUT", x.shadow(3), 72);
                x.two(operation, 3, 2, 1);
                Check.due("shadow of " + operation + " of an INPUT and a constant", x.shadow(3), 72);
                x.two(operation, 3, 0, 1);
                Check.due("shadow of " + operation + " of constants", x.shadow(3), 64);
            }
        }
    }

    @Sentence(at = Sentence.TERMS, says = MIXED)
    static void addAndSubBesideThemStayExact() {
        for (int kind = Codes.INT; kind <= Codes.LONG; kind++) {
            for (int operation : new int[] {Codes.ADD, Codes.SUB, Codes.LEAST}) {
                ShadowMachine x = Given.inputs(kind, 7, 2);
                x.two(operation, 2, 0, 1);
                Check.due("shadow of " + operation, x.shadow(2), 67);
            }
        }
    }

    @Sentence(at = Sentence.TERMS, says = ROUNDED)
    static void theFourThatRound() {
        for (int i = 0; i < ROUNDING.length; i++) {
            for (int set : new int[] {1, 63}) {
                ShadowMachine x = withSet(ROUNDED_KINDS[i], set);
                Check.due("one(" + ROUNDING[i] + ")", x.one(ROUNDING[i], 2, 0), ShadowMachine.OK);
                Check.due("shadow of " + ROUNDING[i], x.shadow(2), set);
                Check.due("shadow of the operand", x.shadow(0), 64 + set);
            }
        }
    }

    @Sentence(at = Sentence.TERMS, says = ROUNDED)
    static void theFourOfWhatIsEmptyAreExact() {
        for (int i = 0; i < ROUNDING.length; i++) {
            ShadowMachine x = Given.constants(ROUNDED_KINDS[i], 77);
            x.one(ROUNDING[i], 2, 0);
            Check.due("shadow of " + ROUNDING[i], x.shadow(2), 64);
        }
    }

    @Sentence(at = Sentence.TERMS, says = THROWN)
    static void aThrownDivisionLeavesResultAndOperands() {
        for (int kind = Codes.INT; kind <= Codes.LONG; kind++) {
            for (int operation = Codes.DIV; operation <= Codes.REM; operation++) {
                int number = operation;
                int zeroKind = kind;
                Boundary.exception("two(" + operation + ") by 0", () -> dividedByZero(zeroKind), x -> x.two(number, 2, 0, 1),
                    ShadowMachine.ARITHMETIC);
                Boundary.exception("two(" + operation + ") by 0 into itself", () -> dividedByZero(zeroKind), x -> x.two(number, 0, 0, 1),
                    ShadowMachine.ARITHMETIC);
            }
        }
    }

    private static ShadowMachine dividedByZero(int kind) {
        ShadowMachine x = Given.inputs(kind, 10, 0);
        x.input(2, Codes.DOUBLE, Codes.bitsOf(2.5), 2);
        return x;
    }
}

/** "Terms": what is REFUSED. */
public final class BoundaryTermsRefusedTest {
    private static final String NOTHING = "A refused call changes nothing.";
    private static final String RANGES = "Numbers out of their ranges are REFUSED in every call,";
    private static final String KINDS = "as is an operand of a KIND that the OPERATION does not take.";

    public static void main(String[] args) {
        Boundary.run(BoundaryTermsRefusedTest.class);
    }

    @Sentence(at = Sentence.TERMS, says = NOTHING)
    static void refusedCallsAreNoExceptions() {
        ShadowMachine x = Given.busy();
        Check.due("array", x.array(0, 8, 6), ShadowMachine.REFUSED);
        Check.due("two", x.two(Codes.DIV, 8, 0, 6), ShadowMachine.REFUSED);
        Check.due("load", x.load(6, Given.NULL_ARRAY, 1), ShadowMachine.REFUSED);
        Check.due("store", x.store(0, 1, 1), ShadowMachine.REFUSED);
        Check.due("branch", x.branch(0, 0, 1), ShadowMachine.REFUSED);
        Check.due("copy", x.copy(4, 0, Given.NULL_ARRAY, 0, -1), ShadowMachine.REFUSED);
        Check.due("count(2)", x.count(2), 1);
        Check.holds("nothing is changed", Check.state(x).equals(Check.state(Given.busy())));
    }

    @Sentence(at = Sentence.TERMS, says = NOTHING)
    static void aRefusedCallPinsNothing() {
        Boundary.refused("array of SORT 8", Given::busy, x -> x.array(0, 8, 0));
        Boundary.refused("load into REGISTER 8", Given::busy, x -> x.load(8, 0, 0));
        Boundary.refused("store of REGISTER 8", Given::busy, x -> x.store(0, 0, 8));
        Boundary.refused("two into REGISTER 8", Given::busy, x -> x.two(Codes.ADD, 8, 2, 2));
        Boundary.refused("two of FLOAT and DOUBLE", Given::busy, x -> x.two(Codes.ADD, 6, 2, 3));
        Boundary.refused("branch of test 6", Given::busy, x -> x.branch(6, 0, 4));
    }

    @Sentence(at = Sentence.TERMS, says = RANGES)
    static void registersOutOfRange() {
        for (int r : Boundary.beside(0, 7)) {
            Boundary.refused("constant", Given::busy, x -> x.constant(r, 0, 1));
            Boundary.refused("input", Given::busy, x -> x.input(r, 0, 1, 0));
            Boundary.refused("one, r", Given::busy, x -> x.one(Codes.NEG, r, 0));
            Boundary.refused("one, a", Given::busy, x -> x.one(Codes.NEG, 0, r));
            Boundary.refused("two, r", Given::busy, x -> x.two(Codes.ADD, r, 0, 4));
            Boundary.refused("two, a", Given::busy, x -> x.two(Codes.ADD, 6, r, 4));
            Boundary.refused("two, b", Given::busy, x -> x.two(Codes.ADD, 6, 0, r));
            Boundary.refused("move, r", Given::busy, x -> x.move(r, 0));
            Boundary.refused("move, a", Given::busy, x -> x.move(0, r));
            Boundary.refused("array, n", Given::busy, x -> x.array(0, 4, r));
            Boundary.refused("load, r", Given::busy, x -> x.load(r, 0, 0));
            Boundary.refused("load, i", Given::busy, x -> x.load(6, 0, r));
            Boundary.refused("store, i", Given::busy, x -> x.store(0, r, 0));
            Boundary.refused("store, a", Given::busy, x -> x.store(0, 0, r));
            Boundary.refused("length", Given::busy, x -> x.length(r, 0));
            Boundary.refused("branch, a", Given::busy, x -> x.branch(0, r, 0));
            Boundary.refused("branch, b", Given::busy, x -> x.branch(0, 0, r));
            Boundary.refused("kind", Given::busy, x -> x.kind(r));
            Boundary.refused("shadow", Given::busy, x -> x.shadow(r));
        }
    }

    @Sentence(at = Sentence.TERMS, says = RANGES)
    static void arraysOutOfRange() {
        for (int h : Boundary.beside(0, 3)) {
            Boundary.refused("array", Given::busy, x -> x.array(h, 4, 0));
            Boundary.refused("drop", Given::busy, x -> x.drop(h));
            Boundary.refused("share, h", Given::busy, x -> x.share(h, 0));
            Boundary.refused("share, g", Given::busy, x -> x.share(0, h));
            Boundary.refused("load", Given::busy, x -> x.load(6, h, 0));
            Boundary.refused("store", Given::busy, x -> x.store(h, 0, 0));
            Boundary.refused("length", Given::busy, x -> x.length(6, h));
            Boundary.refused("copy, g", Given::busy, x -> x.copy(h, 0, 0, 0, 1));
            Boundary.refused("copy, h", Given::busy, x -> x.copy(0, 0, h, 0, 1));
        }
    }

    @Sentence(at = Sentence.TERMS, says = RANGES)
    static void operationsOutOfRange() {
        for (int operation : new int[] {-1, 19, 20, 34, 40, 41, 42, Integer.MIN_VALUE, Integer.MAX_VALUE}) {
            for (int kind = 0; kind < 4; kind++) {
                int a = kind;
                Boundary.refused("one(" + operation + ") of KIND " + kind, Given::busy, x -> x.one(operation, 6, a));
            }
        }
        for (int operation : new int[] {-1, 0, 15, 18, 19, 35, 40, 41, 42, Integer.MIN_VALUE, Integer.MAX_VALUE}) {
            for (int kind = 0; kind < 4; kind++) {
                int a = kind;
                Boundary.refused("two(" + operation + ") of KIND " + kind, Given::busy, x -> x.two(operation, 6, a, a));
            }
        }
    }

    @Sentence(at = Sentence.TERMS, says = RANGES)
    static void allOtherNumbersOutOfRange() {
        for (int kind : Boundary.beside(0, 3)) {
            Boundary.refused("constant, kind", Given::busy, x -> x.constant(0, kind, 1));
            Boundary.refused("input, kind", Given::busy, x -> x.input(0, kind, 1, 0));
        }
        for (int k : Boundary.beside(0, 5)) {
            Boundary.refused("input, k", Given::busy, x -> x.input(0, 0, 1, k));
            Boundary.refused("branch, test", Given::busy, x -> x.branch(k, 0, 4));
        }
        for (int sort : Boundary.beside(0, 7)) {
            Boundary.refused("array, sort", Given::busy, x -> x.array(0, sort, 0));
        }
        for (int what : Boundary.beside(0, 3)) {
            Boundary.refused("count, what", Given::busy, x -> x.count(what));
        }
    }

    @Sentence(at = Sentence.TERMS, says = RANGES)
    static void outOfRangeIsToldBeforeAnyException() {
        Boundary.refused("load of null into REGISTER 8", Given::busy, x -> x.load(8, Given.NULL_ARRAY, 0));
        Boundary.refused("store in null of REGISTER -1", Given::busy, x -> x.store(Given.NULL_ARRAY, 0, -1));
        Boundary.refused("length of null into REGISTER 8", Given::busy, x -> x.length(8, Given.NULL_ARRAY));
        Boundary.refused("copy of null to ARRAY 4", Given::busy, x -> x.copy(Given.NULL_ARRAY, 0, 4, 0, 1));
        Boundary.refused("copy of ARRAY 4 to null", Given::busy, x -> x.copy(4, 0, Given.NULL_ARRAY, 0, 1));
        Boundary.refused("division by 0 into REGISTER 8", Given::busy, x -> x.two(Codes.DIV, 8, 0, 6));
        Boundary.refused("array of SORT -1 of a negative size", () -> Given.constants(Codes.INT, -1), x -> x.array(0, -1, 0));
        Boundary.refused("ARRAY 4 of a negative size", () -> Given.constants(Codes.INT, -1), x -> x.array(4, 4, 0));
    }

    @Sentence(at = Sentence.TERMS, says = KINDS)
    static void operandsOfOneOfAnotherKind() {
        int[] taken = {0, 0, 0, 1, 1, 1, 2, 2, 2, 3, 3, 3, 0, 0, 0};
        for (int operation = 0; operation <= 18; operation++) {
            for (int kind = 0; kind < 4; kind++) {
                int number = operation;
                int a = kind;
                boolean takes = operation < 15 ? taken[operation] == kind : operation < 17 || (operation == 17) == (kind > 1);
                if (!takes) {
                    Boundary.refused("one(" + operation + ") of KIND " + kind, Given::busy, x -> x.one(number, 6, a));
                }
            }
        }
    }

    @Sentence(at = Sentence.TERMS, says = KINDS)
    static void operandsOfTwoOfAnotherKind() {
        for (int operation = 27; operation <= 32; operation++) {
            int number = operation;
            Boundary.refused("two(" + operation + ") of FLOATS", Given::busy, x -> x.two(number, 6, 2, 2));
            Boundary.refused("two(" + operation + ") of DOUBLES", Given::busy, x -> x.two(number, 6, 3, 3));
        }
        for (int operation = 33; operation <= 34; operation++) {
            int number = operation;
            Boundary.refused("two(" + operation + ") of INTS", Given::busy, x -> x.two(number, 6, 0, 4));
        }
    }

    @Sentence(at = Sentence.TERMS, says = KINDS)
    static void anotherKindIsToldBeforeADivisionByZero() {
        ShadowMachine y = Given.constants(Codes.LONG, 0);
        Check.due("INT by LONG 0", y.two(Codes.DIV, 2, 1, 0), ShadowMachine.REFUSED);
        Check.due("LONG by INT 0", y.two(Codes.REM, 2, 0, 1), ShadowMachine.REFUSED);
        Check.counts(y, 0, 0, 0, 0);
    }
}

import java.util.function.Supplier;

/** "Terms": ARRAYS, EXCEPTIONS and WAYS. */
public final class BoundaryTermsArraysTest {
    private static final String ARRAYS = "ARRAYS 0 .. 3 are null at first, or have a SORT and 0 .. 12 cells:";
    private static final String SORTS = "SORTS 0 boolean, 1 byte, 2 char, 3 short (these take and give INTs), 4 int, 5 long, 6 float,"
        + " 7 double.";
    private static final String STORING = "Storing: a boolean keeps the lowest bit, byte, char and short their low bits;";
    private static final String LOADING = "loading: byte and short with sign, char and boolean without.";
    private static final String INDEX = "An INDEX is an INT in a REGISTER;";
    private static final String INDEX_PINNED = "used, it is PINNED after null and the bounds were tested.";
    private static final String EXCEPTIONS = "EXCEPTIONS that calls answer: ARITHMETIC, NULL, BOUNDS,";
    private static final String STORE = "STORE (the value is not of the KIND that the SORT takes; told before BOUNDS).";
    private static final String WAYS = "WAYS: branch notes what was decided if that depends on an INPUT: the set of both operands, and"
        + " whether it was so;";

    private static final int[] KIND_TAKEN = {
        Codes.INT, Codes.INT, Codes.INT, Codes.INT, Codes.INT, Codes.LONG, Codes.FLOAT, Codes.DOUBLE
    };

    public static void main(String[] args) {
        Boundary.run(BoundaryTermsArraysTest.class);
    }

    @Sentence(at = Sentence.TERMS, says = ARRAYS)
    static void allFourAreNullAtFirst() {
        for (int h = 0; h < 4; h++) {
            ShadowMachine x = new ShadowMachine();
            Check.due("the SORT of ARRAY " + h, x.cell(h, 0, 2), ShadowMachine.NONE);
            Check.due("length of ARRAY " + h, x.length(0, h), ShadowMachine.NULL);
        }
    }

    @Sentence(at = Sentence.TERMS, says = ARRAYS)
    static void theFewestAndTheMostCells() {
        for (int h = 0; h < 4; h++) {
            ShadowMachine x = Given.constants(Codes.INT, 0, 12);
            Check.due("array of no cells", x.array(h, 5, 0), ShadowMachine.OK);
            Check.due("its SORT", x.cell(h, 0, 2), 5);
            Check.due("its cell 0", x.cell(h, 0, 0), ShadowMachine.NONE);
            Check.due("array of 12 cells", x.array(h, 6, 1), ShadowMachine.OK);
            Check.due("its cell 11", x.cell(h, 11, 0), 0);
            Check.due("its cell 12", x.cell(h, 12, 0), ShadowMachine.NONE);
        }
    }

    @Sentence(at = Sentence.TERMS, says = ARRAYS)
    static void thirteenCellsAreTooMany() {
        Supplier<ShadowMachine> given = () -> Given.constants(Codes.INT, 13);
        Boundary.refused("array of 13 cells", given, x -> x.array(0, 4, 0));
    }

    @Sentence(at = Sentence.TERMS, says = ARRAYS)
    static void thereIsNoArrayBesideThem() {
        for (int h : Boundary.beside(0, 3)) {
            Boundary.refused("array(" + h + ")", Given::busy, x -> x.array(h, 4, 7));
            Boundary.refused("drop(" + h + ")", Given::busy, x -> x.drop(h));
        }
    }

    @Sentence(at = Sentence.TERMS, says = SORTS)
    static void firstAndLastSort() {
        for (int sort = 0; sort < 8; sort++) {
            Check.due("the SORT", Given.array(sort, 1).cell(0, 0, 2), sort);
        }
        for (int sort : Boundary.beside(0, 7)) {
            Boundary.refused("array of SORT " + sort, Given::busy, x -> x.array(0, sort, 7));
        }
    }

    @Sentence(at = Sentence.TERMS, says = SORTS)
    static void whatEachSortTakesAndGives() {
        for (int sort = 0; sort < 8; sort++) {
            ShadowMachine x = Given.array(sort, 1);
            x.constant(1, KIND_TAKEN[sort], 1);
            Check.due("store in SORT " + sort, x.store(0, 0, 1), ShadowMachine.OK);
            Check.due("load of SORT " + sort, x.load(2, 0, 0), ShadowMachine.OK);
            Check.register(x, 2, KIND_TAKEN[sort], 1, 64);
        }
    }

    private static void keeps(int sort, long stored, long loaded) {
        ShadowMachine x = Given.array(sort, 1);
        x.constant(1, KIND_TAKEN[sort], stored);
        Check.due("store of " + stored + " in SORT " + sort, x.store(0, 0, 1), ShadowMachine.OK);
        Check.due("cell(0, 0, 0)", x.cell(0, 0, 0), loaded);
        x.load(2, 0, 0);
        Check.register(x, 2, KIND_TAKEN[sort], loaded, 64);
    }

    @Sentence(at = Sentence.TERMS, says = STORING)
    static void aBooleanKeepsTheLowestBit() {
        keeps(0, 1, 1);
        keeps(0, 2, 0);
        keeps(0, 3, 1);
        keeps(0, -1, 1);
        keeps(0, -2, 0);
        keeps(0, Integer.MIN_VALUE, 0);
        keeps(0, Integer.MAX_VALUE, 1);
    }

    @Sentence(at = Sentence.TERMS, says = STORING)
    static void byteCharAndShortWrap() {
        keeps(1, 256, 0);
        keeps(1, -129, 127);
        keeps(1, Integer.MIN_VALUE, 0);
        keeps(2, 65536, 0);
        keeps(2, 65537, 1);
        keeps(2, Integer.MIN_VALUE, 0);
        keeps(3, 65536, 0);
        keeps(3, -32769, 32767);
        keeps(3, Integer.MIN_VALUE, 0);
    }

    @Sentence(at = Sentence.TERMS, says = STORING)
    static void theWideSortsKeepAll() {
        keeps(4, Integer.MIN_VALUE, Integer.MIN_VALUE);
        keeps(4, Integer.MAX_VALUE, Integer.MAX_VALUE);
        keeps(5, Long.MIN_VALUE, Long.MIN_VALUE);
        keeps(5, Long.MAX_VALUE, Long.MAX_VALUE);
        keeps(6, Integer.MIN_VALUE, Integer.MIN_VALUE);
        keeps(6, 0x7F800000L, 0x7F800000L);
        keeps(6, -1, 0x7FC00000L);
        keeps(7, Long.MIN_VALUE, Long.MIN_VALUE);
        keeps(7, -1, 0x7FF8000000000000L);
    }

    @Sentence(at = Sentence.TERMS, says = LOADING)
    static void byteAndShortWithSign() {
        keeps(1, 127, 127);
        keeps(1, 128, -128);
        keeps(1, 255, -1);
        keeps(3, 32767, 32767);
        keeps(3, 32768, -32768);
        keeps(3, 65535, -1);
    }

    @Sentence(at = Sentence.TERMS, says = LOADING)
    static void charAndBooleanWithoutSign() {
        keeps(2, 32768, 32768);
        keeps(2, 65535, 65535);
        keeps(2, -1, 65535);
        keeps(0, -1, 1);
    }

    @Sentence(at = Sentence.TERMS, says = INDEX)
    static void theFirstAndTheLastCell() {
        ShadowMachine x = Given.array(4, 12);
        for (int index : new int[] {0, 11}) {
            x.constant(0, Codes.INT, index);
            x.constant(1, Codes.INT, 100 + index);
            Check.due("store at " + index, x.store(0, 0, 1), ShadowMachine.OK);
            Check.due("load at " + index, x.load(2, 0, 0), ShadowMachine.OK);
            Check.due("what was loaded", x.bits(2), 100 + index);
        }
        Check.cell(x, 0, 0, 100, 64);
        Check.cell(x, 0, 11, 111, 64);
        Check.cell(x, 0, 1, 0, 64);
        Check.cell(x, 0, 10, 0, 64);
    }

    @Sentence(at = Sentence.TERMS, says = INDEX)
    static void anIndexOfAnotherKindIsRefused() {
        for (int i = Codes.LONG; i <= Codes.DOUBLE; i++) {
            int index = i;
            Boundary.refused("load", Given::busy, x -> x.load(6, 0, index));
            Boundary.refused("store", Given::busy, x -> x.store(0, index, 0));
        }
    }

    @Sentence(at = Sentence.TERMS, says = INDEX_PINNED)
    static void anIndexThatIsUsedIsPinned() {
        ShadowMachine x = Given.array(4, 3);
        x.input(0, Codes.INT, 2, 1);
        x.load(2, 0, 0);
        Check.pin(x, 0, 41, 2);
        Check.register(x, 0, Codes.INT, 2, 64);
        x.input(0, Codes.INT, 2, 5);
        x.store(0, 0, 2);
        Check.pin(x, 0, 42, 32);
        Check.register(x, 0, Codes.INT, 2, 64);
        Check.due("count(0)", x.count(0), 2);
    }

    @Sentence(at = Sentence.TERMS, says = INDEX_PINNED)
    static void anIndexIntoNullIsNotPinned() {
        Boundary.exception("load of null", Given::busy, x -> x.load(6, Given.NULL_ARRAY, 0), ShadowMachine.NULL);
        Boundary.exception("store in null", Given::busy, x -> x.store(Given.NULL_ARRAY, 0, 4), ShadowMachine.NULL);
    }

    @Sentence(at = Sentence.TERMS, says = INDEX_PINNED)
    static void anIndexOutOfTheBoundsIsNotPinned() {
        for (long index : new long[] {-1, 3, 12, Integer.MIN_VALUE, Integer.MAX_VALUE}) {
            Boundary.exception("load at " + index, () -> Given.busyWith(index), x -> x.load(6, 0, 0), ShadowMachine.BOUNDS);
            Boundary.exception("store at " + index, () -> Given.busyWith(index), x -> x.store(0, 0, 4), ShadowMachine.BOUNDS);
        }
    }

    @Sentence(at = Sentence.TERMS, says = EXCEPTIONS)
    static void eachExceptionIsAnsweredAndCounted() {
        ShadowMachine x = Given.constants(Codes.INT, 0, -1);
        Check.due("ARITHMETIC", x.two(Codes.DIV, 2, 0, 0), -2);
        Check.due("NULL", x.length(2, 0), -3);
        x.array(0, 4, 0);
        Check.due("BOUNDS", x.load(2, 0, 0), -4);
        Check.due("NEGATIVE", x.array(0, 4, 1), -5);
        x.constant(2, Codes.LONG, 0);
        Check.due("STORE", x.store(0, 0, 2), -6);
        Check.counts(x, 0, 0, 5, 0);
    }

    @Sentence(at = Sentence.TERMS, says = EXCEPTIONS)
    static void anArrayOfNoCellsHasNoIndexInItsBounds() {
        for (long index : new long[] {-1, 0, 1}) {
            ShadowMachine x = Given.array(4, 0);
            x.constant(0, Codes.INT, index);
            Check.due("load at " + index, x.load(1, 0, 0), ShadowMachine.BOUNDS);
            Check.due("store at " + index, x.store(0, 0, 1), ShadowMachine.BOUNDS);
        }
    }

    @Sentence(at = Sentence.TERMS, says = "NEGATIVE (a negative size),")
    static void aNegativeSize() {
        for (long size : new long[] {-1, -13, Integer.MIN_VALUE}) {
            Boundary.exception("array of " + size, () -> Given.busyWith(size), x -> x.array(0, 4, 0), ShadowMachine.NEGATIVE);
        }
        ShadowMachine x = Given.busyWith(0);
        Check.due("array of 0", x.array(0, 4, 0), ShadowMachine.OK);
    }

    @Sentence(at = Sentence.TERMS, says = STORE)
    static void aValueOfEveryOtherKind() {
        for (int sort = 0; sort < 8; sort++) {
            for (int kind = 0; kind < 4; kind++) {
                ShadowMachine x = Given.array(sort, 1);
                x.input(1, kind, 1, 2);
                int due = kind == KIND_TAKEN[sort] ? ShadowMachine.OK : ShadowMachine.STORE;
                Check.due("store of KIND " + kind + " in SORT " + sort, x.store(0, 0, 1), due);
                Check.due("what the cell has then", x.cell(0, 0, 0), due == ShadowMachine.OK ? 1 : 0);
            }
        }
    }

    @Sentence(at = Sentence.TERMS, says = STORE)
    static void storeIsToldBeforeBounds() {
        for (long index : new long[] {-1, 3, Integer.MIN_VALUE, Integer.MAX_VALUE}) {
            Boundary.exception("store of a LONG at " + index, () -> Given.busyWith(index), x -> x.store(0, 0, 1), ShadowMachine.STORE);
        }
        Boundary.exception("store of a LONG in no cells", BoundaryTermsArraysTest::noCellsAndALong, x -> x.store(0, 0, 1),
            ShadowMachine.STORE);
    }

    private static ShadowMachine noCellsAndALong() {
        ShadowMachine x = Given.array(4, 0);
        x.input(1, Codes.LONG, 0, 1);
        return x;
    }

    @Sentence(at = Sentence.TERMS, says = WAYS)
    static void branchOfConstantsNotesNothing() {
        ShadowMachine x = Given.constants(Codes.INT, 1, 2);
        for (int test = 0; test < 6; test++) {
            x.branch(test, 0, 1);
        }
        Check.counts(x, 0, 0, 0, 0);
        Check.due("way(0, 0)", x.way(0, 0), ShadowMachine.NONE);
    }

    @Sentence(at = Sentence.TERMS, says = WAYS)
    static void oneInputIsEnoughForAWay() {
        ShadowMachine x = Given.constants(Codes.INT, 1, 2);
        x.input(2, Codes.INT, 2, 5);
        x.branch(0, 2, 0);
        Check.way(x, 0, 0, 32, 1);
        x.branch(0, 1, 2);
        Check.way(x, 0, 1, 32, 1);
        Check.due("count(1)", x.count(1), 2);
    }

    @Sentence(at = Sentence.TERMS, says = WAYS)
    static void theSetIsOfBothOperands() {
        ShadowMachine x = Given.inputs(Codes.INT, 1, 2);
        x.branch(2, 0, 1);
        Check.way(x, 0, 1, 3, 1);
        x.branch(1, 1, 1);
        Check.way(x, 0, 0, 2, 1);
        Check.register(x, 0, Codes.INT, 1, 65);
        Check.register(x, 1, Codes.INT, 2, 66);
    }

    @Sentence(at = Sentence.TERMS, says = "the last 16 are kept;")
    static void theSixteenthAndTheSeventeenthWay() {
        ShadowMachine x = Given.inputs(Codes.INT, 1);
        x.input(1, Codes.INT, 1, 4);
        x.branch(0, 1, 1);
        for (int n = 1; n < 16; n++) {
            x.branch(1, 0, 0);
        }
        Check.way(x, 15, 1, 16, 1);
        Check.way(x, 14, 0, 1, 1);
        x.branch(1, 0, 0);
        Check.way(x, 15, 0, 1, 1);
        Check.due("way(16, 0)", x.way(16, 0), ShadowMachine.NONE);
        Check.due("count(1)", x.count(1), 17);
    }

    @Sentence(at = Sentence.TERMS, says = "and the last 16 PINS.")
    static void theSixteenthAndTheSeventeenthPin() {
        ShadowMachine x = new ShadowMachine();
        pinFloat(x, Codes.REM, 4);
        for (int n = 1; n < 16; n++) {
            pinFloat(x, Codes.ADD, 0);
        }
        Check.pin(x, 15, Codes.REM, 16);
        Check.pin(x, 14, Codes.ADD, 1);
        pinFloat(x, Codes.ADD, 0);
        Check.pin(x, 15, Codes.ADD, 1);
        Check.due("pin(16, 0)", x.pin(16, 0), ShadowMachine.NONE);
        Check.due("count(0)", x.count(0), 17);
    }

    private static void pinFloat(ShadowMachine x, int operation, int k) {
        x.input(0, Codes.FLOAT, 0, k);
        x.two(operation, 1, 0, 0);
    }
}

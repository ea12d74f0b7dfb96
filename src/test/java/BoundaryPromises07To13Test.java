/** Promises 7 to 13: array, drop, share, load, store, length, copy. */
public final class BoundaryPromises07To13Test {
    private static final String P7 = "Promise 7";
    private static final String P8 = "Promise 8";
    private static final String P9 = "Promise 9";
    private static final String P10 = "Promise 10";
    private static final String P11 = "Promise 11";
    private static final String P12 = "Promise 12";
    private static final String P13 = "Promise 13";
    private static final String CELLS = "with as many cells as the INT in REGISTER n says, all 0 with empty SHADOWS: OK.";
    private static final String SIZE_REFUSED = "n's REGISTER is no INT, or says more than 12: REFUSED.";
    private static final String SIZE_PINNED = "Else that REGISTER is PINNED (as OPERATION 40).";
    private static final String DROP = "ARRAY h becomes null: OK.";
    private static final String SHARE = "ARRAY h becomes the same one as ARRAY g (or null): OK.";
    private static final String LOAD = "REGISTER r gets the cell of ARRAY h at the INDEX in REGISTER i, with its SHADOW: OK, NULL or"
        + " BOUNDS.";
    private static final String LOAD_PIN = "The PIN is of OPERATION 41.";
    private static final String NO_INT = "i's REGISTER is no INT: REFUSED.";
    private static final String STORE = "The cell of ARRAY h at the INDEX in REGISTER i gets the value of REGISTER a, with its SHADOW";
    private static final String STORE_SHADOW = "(not EXACT for SORTS 0 to 3, unless its set is empty):";
    private static final String STORE_ANSWERS = "OK, STORE, NULL or BOUNDS.";
    private static final String STORE_PIN = "The value is taken with its SHADOW first, then the PIN is noted (OPERATION 42).";
    private static final String LENGTH = "REGISTER r gets the INT number of cells of ARRAY h, with an empty SHADOW: OK or NULL.";
    private static final String COPY = "Copies n cells, SHADOWS too, of ARRAY g from place p on to ARRAY h from place q on";
    private static final String COPY_BOUNDS = "BOUNDS: n, p or q is below 0, or p + n or q + n is above the number of cells.";

    private static final int MIN = Integer.MIN_VALUE;
    private static final int MAX = Integer.MAX_VALUE;

    public static void main(String[] args) {
        Boundary.run(BoundaryPromises07To13Test.class);
    }

    @Sentence(at = P7, says = "ARRAY h 0 .. 3 becomes a new one of a SORT 0 .. 7")
    static void theFirstAndTheLastArrayAndSort() {
        for (int h = 0; h < 4; h++) {
            for (int sort : new int[] {0, 7}) {
                ShadowMachine x = Given.busy();
                Check.due("array(" + h + ", " + sort + ")", x.array(h, sort, 4), ShadowMachine.OK);
                Check.due("its SORT", x.cell(h, 0, 2), sort);
            }
        }
        for (int wrong : Boundary.beside(0, 3)) {
            Boundary.refused("array(" + wrong + ")", Given::busy, x -> x.array(wrong, 4, 0));
        }
        for (int wrong : Boundary.beside(0, 7)) {
            Boundary.refused("array of SORT " + wrong, Given::busy, x -> x.array(0, wrong, 0));
        }
    }

    @Sentence(at = P7, says = "ARRAY h 0 .. 3 becomes a new one of a SORT 0 .. 7")
    static void theOldOneOfThoseThatShareStays() {
        ShadowMachine x = Given.busy();
        Check.due("array(1)", x.array(1, 1, 4), ShadowMachine.OK);
        Check.cell(x, 1, 0, 0, 64);
        Check.cell(x, 2, 0, 2, 16);
        Check.due("cell behind the last", x.cell(1, 2, 0), ShadowMachine.NONE);
        Check.cell(x, 2, 2, 0, 64);
    }

    @Sentence(at = P7, says = "ARRAY h 0 .. 3 becomes a new one of a SORT 0 .. 7")
    static void theOtherThreeFullOnesStay() {
        for (int h = 0; h < 4; h++) {
            ShadowMachine x = new ShadowMachine();
            for (int other = 0; other < 4; other++) {
                fill(x, other, 4, 12);
            }
            x.constant(0, Codes.INT, 12);
            Check.due("array(" + h + ")", x.array(h, 4, 0), ShadowMachine.OK);
            for (int other = 0; other < 4; other++) {
                boolean fresh = other == h;
                for (int i = 0; i < 12; i++) {
                    Check.cell(x, other, i, fresh ? 0 : 10 * other + i, fresh ? 64 : 64 + (1 << i % 6));
                }
            }
        }
    }

    @Sentence(at = P7, says = CELLS)
    static void noCellsAndTwelve() {
        for (int sort = 0; sort < 8; sort++) {
            ShadowMachine x = Given.array(sort, 0);
            Check.due("cell 0 of none", x.cell(0, 0, 0), ShadowMachine.NONE);
            x = Given.array(sort, 12);
            for (int i = 0; i < 12; i++) {
                Check.cell(x, 0, i, 0, 64);
            }
            Check.due("cell 12", x.cell(0, 12, 0), ShadowMachine.NONE);
        }
    }

    @Sentence(at = P7, says = CELLS)
    static void aFullArrayMadeAnewIsAllZero() {
        ShadowMachine x = Given.array(4, 12);
        for (int turn = 0; turn < 5; turn++) {
            fill(x, 0, 4, 12);
            x.constant(0, Codes.INT, 12);
            x.array(0, 4, 0);
            for (int i = 0; i < 12; i += 11) {
                Check.cell(x, 0, i, 0, 64);
            }
        }
    }

    @Sentence(at = P7, says = SIZE_REFUSED)
    static void aSizeThatIsNoInt() {
        for (int n = Codes.LONG; n <= Codes.DOUBLE; n++) {
            int register = n;
            Boundary.refused("array of a size of KIND " + n, Given::busy, x -> x.array(0, 4, register));
        }
    }

    @Sentence(at = P7, says = SIZE_REFUSED)
    static void aSizeOfThirteenAndMore() {
        for (int size : new int[] {13, 14, 256, MAX}) {
            Boundary.refused("array of " + size, () -> Given.busyWith(size), x -> x.array(0, 4, 0));
        }
        Check.due("array of 12", Given.busyWith(12).array(0, 4, 0), ShadowMachine.OK);
    }

    @Sentence(at = P7, says = "Below 0: NEGATIVE.")
    static void aSizeBelowZero() {
        for (int size : new int[] {-1, -2, MIN}) {
            Boundary.exception("array of " + size, () -> Given.busyWith(size), x -> x.array(1, 4, 0), ShadowMachine.NEGATIVE);
            Boundary.exception("array of " + size, () -> Given.busyWith(size), x -> x.array(3, 4, 0), ShadowMachine.NEGATIVE);
        }
        Check.due("array of 0", Given.busyWith(0).array(1, 4, 0), ShadowMachine.OK);
    }

    @Sentence(at = P7, says = SIZE_PINNED)
    static void sizesOfNoneAndTwelveArePinned() {
        for (int size : new int[] {0, 12}) {
            ShadowMachine x = Given.busyWith(size);
            Check.due("array of " + size, x.array(0, 4, 0), ShadowMachine.OK);
            Check.pin(x, 0, 40, 4);
            Check.pin(x, 1, 41, 32);
            Check.register(x, 0, Codes.INT, size, 64);
            Check.due("count(0)", x.count(0), 2);
        }
    }

    @Sentence(at = P7, says = SIZE_PINNED)
    static void aSizeWithNoInputIsNotPinned() {
        ShadowMachine x = Given.busy();
        Check.due("array", x.array(0, 4, 7), ShadowMachine.OK);
        Check.due("count(0)", x.count(0), 1);
    }

    @Sentence(at = P8, says = DROP)
    static void dropOfEachAndOfNull() {
        for (int h = 0; h < 4; h++) {
            ShadowMachine x = Given.busy();
            Check.due("drop(" + h + ")", x.drop(h), ShadowMachine.OK);
            Check.due("its SORT", x.cell(h, 0, 2), ShadowMachine.NONE);
            Check.due("drop(" + h + ") again", x.drop(h), ShadowMachine.OK);
            Check.due("length", x.length(6, h), ShadowMachine.NULL);
        }
        Boundary.unchanged("drop of null", Given::busy, x -> x.drop(Given.NULL_ARRAY), ShadowMachine.OK);
    }

    @Sentence(at = P8, says = DROP)
    static void theOtherOfThoseThatShareStays() {
        ShadowMachine x = Given.busy();
        x.drop(1);
        Check.cell(x, 2, 0, 2, 16);
        Check.due("the SORT of the other", x.cell(2, 0, 2), 1);
    }

    @Sentence(at = P8, says = DROP)
    static void dropBesideTheEnds() {
        for (int h : Boundary.beside(0, 3)) {
            Boundary.refused("drop(" + h + ")", Given::busy, x -> x.drop(h));
        }
    }

    @Sentence(at = P9, says = SHARE)
    static void oneArrayUnderAllFour() {
        ShadowMachine x = Given.busy();
        for (int h = 0; h < 4; h++) {
            Check.due("share(" + h + ", 0)", x.share(h, 0), ShadowMachine.OK);
        }
        x.input(5, Codes.INT, 77, 3);
        x.store(3, 7, 5);
        for (int h = 0; h < 4; h++) {
            Check.cell(x, h, 1, 77, 72);
            Check.due("the SORT", x.cell(h, 0, 2), 4);
        }
    }

    @Sentence(at = P9, says = SHARE)
    static void shareOfNullAndWithItself() {
        ShadowMachine x = Given.busy();
        Check.due("share of null", x.share(0, Given.NULL_ARRAY), ShadowMachine.OK);
        Check.due("the SORT", x.cell(0, 0, 2), ShadowMachine.NONE);
        for (int h = 0; h < 4; h++) {
            int same = h;
            Boundary.unchanged("share(" + h + ", " + h + ")", Given::busy, y -> y.share(same, same), ShadowMachine.OK);
        }
    }

    @Sentence(at = P9, says = SHARE)
    static void shareBesideTheEnds() {
        for (int wrong : Boundary.beside(0, 3)) {
            Boundary.refused("share of h " + wrong, Given::busy, x -> x.share(wrong, 0));
            Boundary.refused("share of g " + wrong, Given::busy, x -> x.share(0, wrong));
        }
    }

    @Sentence(at = P10, says = LOAD)
    static void loadOfTheFirstAndTheLastCell() {
        for (int sort = 4; sort < 8; sort++) {
            ShadowMachine x = new ShadowMachine();
            fill(x, 3, sort, 12);
            for (int index : new int[] {0, 11}) {
                x.constant(0, Codes.INT, index);
                Check.due("load at " + index, x.load(7, 3, 0), ShadowMachine.OK);
                Check.register(x, 7, sort - 4, 30 + index, 64 + (1 << index % 6));
            }
        }
    }

    @Sentence(at = P10, says = LOAD)
    static void loadIntoItsOwnIndex() {
        ShadowMachine x = Given.busy();
        x.input(6, Codes.INT, 0, 5);
        Check.due("load", x.load(6, 0, 6), ShadowMachine.OK);
        Check.register(x, 6, Codes.INT, 1, 65);
        Check.pin(x, 0, 41, 32);
    }

    @Sentence(at = P10, says = LOAD)
    static void loadOfACellThatIsNotExact() {
        ShadowMachine x = Given.busy();
        Check.due("load", x.load(7, 2, 6), ShadowMachine.OK);
        Check.register(x, 7, Codes.INT, 2, 16);
    }

    @Sentence(at = P10, says = LOAD)
    static void loadOfNull() {
        for (int index : new int[] {-1, 0, 12}) {
            Boundary.exception("load of null", () -> Given.busyWith(index), x -> x.load(6, Given.NULL_ARRAY, 0), ShadowMachine.NULL);
        }
    }

    @Sentence(at = P10, says = LOAD)
    static void loadOutOfTheBounds() {
        for (int index : new int[] {-1, 3, 11, 12, MIN, MAX}) {
            Boundary.exception("load at " + index, () -> Given.busyWith(index), x -> x.load(6, 0, 0), ShadowMachine.BOUNDS);
        }
        Boundary.exception("load of no cells", () -> Given.array(4, 0), x -> x.load(6, 0, 0), ShadowMachine.BOUNDS);
        Boundary.exception("load behind 12 cells", BoundaryPromises07To13Test::twelveCells, x -> x.load(6, 0, 0), ShadowMachine.BOUNDS);
        Check.due("load at 2", Given.busyWith(2).load(6, 0, 0), ShadowMachine.OK);
    }

    private static ShadowMachine twelveCells() {
        ShadowMachine x = Given.array(4, 12);
        x.input(0, Codes.INT, 12, 0);
        return x;
    }

    @Sentence(at = P10, says = LOAD_PIN)
    static void loadPinsAnIndexThatIsNotEmpty() {
        ShadowMachine x = Given.busyWith(2);
        x.load(6, 0, 0);
        Check.pin(x, 0, 41, 4);
        Check.register(x, 0, Codes.INT, 2, 64);
        Check.due("count(0)", x.count(0), 2);
        x.load(6, 0, 0);
        Check.due("count(0) after an empty INDEX", x.count(0), 2);
    }

    @Sentence(at = P10, says = NO_INT)
    static void loadAtWhatIsNoInt() {
        for (int i = Codes.LONG; i <= Codes.DOUBLE; i++) {
            int index = i;
            Boundary.refused("load at KIND " + i, Given::busy, x -> x.load(6, 0, index));
            Boundary.refused("load of null at KIND " + i, Given::busy, x -> x.load(6, Given.NULL_ARRAY, index));
        }
    }

    @Sentence(at = P11, says = STORE)
    static void storeInTheFirstAndTheLastCell() {
        for (int sort = 4; sort < 8; sort++) {
            ShadowMachine x = Given.array(sort, 12);
            for (int index : new int[] {0, 11}) {
                x.constant(0, Codes.INT, index);
                x.input(1, sort - 4, 50 + index, 4);
                Check.due("store at " + index, x.store(0, 0, 1), ShadowMachine.OK);
                Check.cell(x, 0, index, 50 + index, 80);
                Check.register(x, 1, sort - 4, 50 + index, 80);
            }
            Check.cell(x, 0, 1, 0, 64);
            Check.cell(x, 0, 10, 0, 64);
        }
    }

    @Sentence(at = P11, says = STORE)
    static void storeOfWhatIsEmptyAndOfWhatIsNotExact() {
        ShadowMachine x = Given.busy();
        Check.due("store of what is not EXACT", x.store(0, 6, 5), ShadowMachine.OK);
        Check.cell(x, 0, 0, 2, 17);
        Check.due("store of what is empty", x.store(0, 6, 7), ShadowMachine.OK);
        Check.cell(x, 0, 0, 1, 64);
    }

    @Sentence(at = P11, says = STORE_SHADOW)
    static void theLastSortThatIsNotExactAndTheFirstThatIs() {
        for (int sort = 0; sort < 5; sort++) {
            ShadowMachine x = Given.array(sort, 1);
            x.input(1, Codes.INT, 1, 5);
            x.store(0, 0, 1);
            Check.cell(x, 0, 0, 1, sort < 4 ? 32 : 96);
            Check.due("shadow of the value", x.shadow(1), 96);
        }
    }

    @Sentence(at = P11, says = STORE_SHADOW)
    static void anEmptySetStaysExact() {
        for (int sort = 0; sort < 5; sort++) {
            ShadowMachine x = Given.array(sort, 1);
            x.constant(1, Codes.INT, 1);
            x.store(0, 0, 1);
            Check.cell(x, 0, 0, 1, 64);
        }
    }

    @Sentence(at = P11, says = STORE_ANSWERS)
    static void storeOfAnotherKind() {
        for (int a = Codes.LONG; a <= Codes.DOUBLE; a++) {
            int value = a;
            Boundary.exception("store of KIND " + a + " in ints", Given::busy, x -> x.store(0, 4, value), ShadowMachine.STORE);
            Boundary.exception("store of KIND " + a + " in bytes", Given::busy, x -> x.store(1, 4, value), ShadowMachine.STORE);
            Boundary.exception("store of KIND " + a + " at -1", () -> Given.busyWith(-1), x -> x.store(1, 0, value), ShadowMachine.STORE);
        }
    }

    @Sentence(at = P11, says = STORE_ANSWERS)
    static void storeInNull() {
        for (int index : new int[] {-1, 0, 12}) {
            Boundary.exception("store in null", () -> Given.busyWith(index), x -> x.store(Given.NULL_ARRAY, 0, 4), ShadowMachine.NULL);
        }
    }

    @Sentence(at = P11, says = STORE_ANSWERS)
    static void storeOutOfTheBounds() {
        for (int index : new int[] {-1, 3, 11, 12, MIN, MAX}) {
            Boundary.exception("store at " + index, () -> Given.busyWith(index), x -> x.store(0, 0, 4), ShadowMachine.BOUNDS);
        }
        Boundary.exception("store in no cells", () -> Given.array(4, 0), x -> x.store(0, 0, 1), ShadowMachine.BOUNDS);
        Boundary.exception("store behind 12 cells", BoundaryPromises07To13Test::twelveCells, x -> x.store(0, 0, 1), ShadowMachine.BOUNDS);
        Check.due("store at 2", Given.busyWith(2).store(0, 0, 4), ShadowMachine.OK);
    }

    @Sentence(at = P11, says = STORE_PIN)
    static void storeOfItsOwnIndex() {
        ShadowMachine x = Given.busyWith(2);
        Check.due("store(0, 0, 0)", x.store(0, 0, 0), ShadowMachine.OK);
        Check.cell(x, 0, 2, 2, 68);
        Check.pin(x, 0, 42, 4);
        Check.register(x, 0, Codes.INT, 2, 64);
        Check.due("count(0)", x.count(0), 2);
    }

    @Sentence(at = P11, says = STORE_PIN)
    static void storeAtAnIndexThatIsEmptyPinsNothing() {
        ShadowMachine x = Given.busy();
        Check.due("store(0, 6, 4)", x.store(0, 6, 4), ShadowMachine.OK);
        Check.due("count(0)", x.count(0), 1);
        Check.due("shadow of the value", x.shadow(4), 80);
    }

    @Sentence(at = P11, says = NO_INT)
    static void storeAtWhatIsNoInt() {
        for (int i = Codes.LONG; i <= Codes.DOUBLE; i++) {
            int index = i;
            Boundary.refused("store at KIND " + i, Given::busy, x -> x.store(0, index, 4));
            Boundary.refused("store of another KIND at KIND " + i, Given::busy, x -> x.store(0, index, 1));
            Boundary.refused("store in null at KIND " + i, Given::busy, x -> x.store(Given.NULL_ARRAY, index, 4));
        }
    }

    @Sentence(at = P11, says = "If h is null, no value is of the wrong KIND.")
    static void nullIsToldForEveryKind() {
        for (int a = 0; a < 4; a++) {
            int value = a;
            Boundary.exception("store of KIND " + a + " in null", Given::busy, x -> x.store(3, 4, value), ShadowMachine.NULL);
            Boundary.exception("the same at -1", () -> Given.busyWith(-1), x -> x.store(3, 0, value), ShadowMachine.NULL);
        }
    }

    @Sentence(at = P12, says = LENGTH)
    static void lengthOfNoCellsAndOfTwelve() {
        for (int size : new int[] {0, 1, 11, 12}) {
            ShadowMachine x = Given.array(7, size);
            x.input(7, Codes.DOUBLE, 1, 3);
            Check.due("length", x.length(7, 0), ShadowMachine.OK);
            Check.register(x, 7, Codes.INT, size, 64);
        }
    }

    @Sentence(at = P12, says = LENGTH)
    static void lengthOfASizeThatWasAnInputIsEmpty() {
        ShadowMachine x = Given.busyWith(12);
        x.array(0, 4, 0);
        Check.due("length", x.length(1, 0), ShadowMachine.OK);
        Check.register(x, 1, Codes.INT, 12, 64);
    }

    @Sentence(at = P12, says = LENGTH)
    static void lengthOfNull() {
        for (int r = 0; r < 8; r++) {
            int register = r;
            Boundary.exception("length of null", Given::busy, x -> x.length(register, Given.NULL_ARRAY), ShadowMachine.NULL);
        }
    }

    @Sentence(at = P12, says = LENGTH)
    static void lengthBesideTheEnds() {
        for (int wrong : Boundary.beside(0, 7)) {
            Boundary.refused("length into " + wrong, Given::busy, x -> x.length(wrong, 0));
        }
        for (int wrong : Boundary.beside(0, 3)) {
            Boundary.refused("length of " + wrong, Given::busy, x -> x.length(6, wrong));
        }
    }

    /** An ARRAY h whose cell i has the BITS 10 * h + i and the SHADOW of INPUT i % 6 alone. */
    private static void fill(ShadowMachine x, int h, int sort, int size) {
        x.constant(0, Codes.INT, size);
        x.array(h, sort, 0);
        for (int i = 0; i < size; i++) {
            x.constant(0, Codes.INT, i);
            x.input(1, Math.max(sort - 4, 0), 10 * h + i, i % 6);
            x.store(h, 0, 1);
        }
    }

    /** ARRAY 0: 5 ints, 1: 3 ints, 2: 5 longs, 3: null. */
    private static ShadowMachine forCopies() {
        ShadowMachine x = new ShadowMachine();
        fill(x, 0, 4, 5);
        fill(x, 1, 4, 3);
        fill(x, 2, 5, 5);
        return x;
    }

    @Sentence(at = P13, says = COPY)
    static void copyOfNothing() {
        int[][] places = {{0, 0}, {5, 0}, {0, 3}, {5, 3}};
        for (int[] place : places) {
            String call = "copy(0, " + place[0] + ", 1, " + place[1] + ", 0)";
            Boundary.unchanged(call, BoundaryPromises07To13Test::forCopies, x -> x.copy(0, place[0], 1, place[1], 0), ShadowMachine.OK);
        }
        Boundary.unchanged("copy of no cells", () -> Given.array(4, 0), x -> x.copy(0, 0, 0, 0, 0), ShadowMachine.OK);
    }

    @Sentence(at = P13, says = COPY)
    static void copyOfAllCells() {
        ShadowMachine x = forCopies();
        Check.due("copy(1, 0, 0, 2, 3)", x.copy(1, 0, 0, 2, 3), ShadowMachine.OK);
        int[] due = {0, 1, 10, 11, 12};
        int[] shadows = {65, 66, 65, 66, 68};
        for (int i = 0; i < 5; i++) {
            Check.cell(x, 0, i, due[i], shadows[i]);
        }
        for (int i = 0; i < 3; i++) {
            Check.cell(x, 1, i, 10 + i, 64 + (1 << i));
        }
    }

    @Sentence(at = P13, says = COPY)
    static void copyOfTwelveCellsOfEverySort() {
        for (int sort = 0; sort < 8; sort++) {
            ShadowMachine x = new ShadowMachine();
            fill(x, 0, sort, 12);
            x.constant(0, Codes.INT, 12);
            x.array(3, sort, 0);
            Check.due("copy(0, 0, 3, 0, 12)", x.copy(0, 0, 3, 0, 12), ShadowMachine.OK);
            for (int i = 0; i < 12; i++) {
                Check.cell(x, 3, i, sort == 0 ? i % 2 : i, (sort < 4 ? 0 : 64) + (1 << i % 6));
            }
        }
    }

    @Sentence(at = P13, says = COPY)
    static void copyOfShadowsThatAreEmptyOrNotExact() {
        ShadowMachine x = Given.busy();
        Check.due("copy(1, 0, 2, 1, 2)", x.copy(1, 0, 2, 1, 2), ShadowMachine.OK);
        Check.cell(x, 1, 0, 2, 16);
        Check.cell(x, 1, 1, 2, 16);
        Check.cell(x, 1, 2, 0, 64);
    }

    @Sentence(at = P13, says = "(as if to another place first): OK.")
    static void copyOntoItselfUpAndDown() {
        for (int h = 0; h < 4; h += 3) {
            ShadowMachine x = forCopies();
            x.share(3, 0);
            Check.due("copy up", x.copy(0, 0, h, 1, 4), ShadowMachine.OK);
            Check.cell(x, 0, 0, 0, 65);
            for (int i = 1; i < 5; i++) {
                Check.cell(x, 0, i, i - 1, 64 + (1 << i - 1));
            }
            x = forCopies();
            x.share(3, 0);
            Check.due("copy down", x.copy(0, 1, h, 0, 4), ShadowMachine.OK);
            for (int i = 0; i < 4; i++) {
                Check.cell(x, 0, i, i + 1, 64 + (1 << i + 1));
            }
            Check.cell(x, 0, 4, 4, 80);
        }
        Boundary.unchanged("copy in place", BoundaryPromises07To13Test::forCopies, x -> x.copy(0, 0, 0, 0, 5), ShadowMachine.OK);
    }

    private static void copyAnswers(int exception, int g, int p, int h, int q, int n) {
        String call = "copy(" + g + ", " + p + ", " + h + ", " + q + ", " + n + ")";
        Boundary.exception(call, BoundaryPromises07To13Test::forCopies, x -> x.copy(g, p, h, q, n), exception);
    }

    @Sentence(at = P13, says = "NULL: one is null.")
    static void copyFromAndToNull() {
        copyAnswers(ShadowMachine.NULL, 3, 0, 0, 0, 1);
        copyAnswers(ShadowMachine.NULL, 0, 0, 3, 0, 1);
        copyAnswers(ShadowMachine.NULL, 3, 0, 3, 0, 1);
        copyAnswers(ShadowMachine.NULL, 3, 0, 0, 0, 0);
    }

    @Sentence(at = P13, says = "STORE: their SORTS differ.")
    static void copyToAnotherSort() {
        copyAnswers(ShadowMachine.STORE, 0, 0, 2, 0, 1);
        copyAnswers(ShadowMachine.STORE, 2, 0, 0, 0, 1);
        copyAnswers(ShadowMachine.STORE, 0, 0, 2, 0, 0);
        Boundary.exception("copy of ints to bytes", Given::busy, x -> x.copy(0, 0, 1, 0, 1), ShadowMachine.STORE);
        Boundary.exception("copy of bytes to ints", Given::busy, x -> x.copy(1, 0, 0, 0, 1), ShadowMachine.STORE);
    }

    @Sentence(at = P13, says = COPY_BOUNDS)
    static void copyOfNumbersBelowZero() {
        for (int below : new int[] {-1, MIN}) {
            copyAnswers(ShadowMachine.BOUNDS, 0, 0, 1, 0, below);
            copyAnswers(ShadowMachine.BOUNDS, 0, below, 1, 0, 1);
            copyAnswers(ShadowMachine.BOUNDS, 0, 0, 1, below, 1);
            copyAnswers(ShadowMachine.BOUNDS, 0, below, 1, 0, 0);
            copyAnswers(ShadowMachine.BOUNDS, 0, 0, 1, below, 0);
            copyAnswers(ShadowMachine.BOUNDS, 0, 1, 1, 1, below);
        }
    }

    @Sentence(at = P13, says = COPY_BOUNDS)
    static void copyBehindTheLastCell() {
        copyAnswers(ShadowMachine.BOUNDS, 0, 3, 1, 0, 3);
        copyAnswers(ShadowMachine.BOUNDS, 0, 0, 1, 1, 3);
        copyAnswers(ShadowMachine.BOUNDS, 0, 0, 1, 0, 4);
        copyAnswers(ShadowMachine.BOUNDS, 1, 0, 0, 0, 4);
        copyAnswers(ShadowMachine.BOUNDS, 0, 5, 1, 0, 1);
        copyAnswers(ShadowMachine.BOUNDS, 0, 0, 1, 3, 1);
        copyAnswers(ShadowMachine.BOUNDS, 0, 6, 1, 0, 0);
        copyAnswers(ShadowMachine.BOUNDS, 0, 0, 1, 4, 0);
        Boundary.exception("copy in no cells", () -> Given.array(4, 0), x -> x.copy(0, 0, 0, 0, 1), ShadowMachine.BOUNDS);
        Check.due("copy up to the last cell", forCopies().copy(0, 2, 1, 0, 3), ShadowMachine.OK);
    }

    @Sentence(at = P13, says = COPY_BOUNDS)
    static void copyOfSumsThatWrap() {
        copyAnswers(ShadowMachine.BOUNDS, 0, MAX, 1, 0, 1);
        copyAnswers(ShadowMachine.BOUNDS, 0, 0, 1, MAX, 1);
        copyAnswers(ShadowMachine.BOUNDS, 0, 1, 1, 1, MAX);
        copyAnswers(ShadowMachine.BOUNDS, 0, MAX, 1, MAX, MAX);
        copyAnswers(ShadowMachine.BOUNDS, 0, MIN, 1, MIN, MIN);
        copyAnswers(ShadowMachine.BOUNDS, 0, MAX, 1, MAX, 3);
    }

    @Sentence(at = P13, says = "Tested in this order.")
    static void nullBeforeStoreBeforeBounds() {
        copyAnswers(ShadowMachine.NULL, 3, -1, 2, MAX, -1);
        copyAnswers(ShadowMachine.NULL, 2, MAX, 3, -1, 9);
        copyAnswers(ShadowMachine.STORE, 0, -1, 2, 0, 1);
        copyAnswers(ShadowMachine.STORE, 2, 0, 0, 0, MAX);
        copyAnswers(ShadowMachine.STORE, 0, 0, 2, 0, -1);
    }
}

/** Promises 14 to 22: branch, kind, bits, shadow, cell, pin, way, count, order and limits. */
public final class BoundaryPromises14To22Test {
    private static final String P14 = "Promise 14";
    private static final String P15 = "Promise 15";
    private static final String P16 = "Promise 16";
    private static final String P17 = "Promise 17";
    private static final String P18 = "Promise 18";
    private static final String P19 = "Promise 19";
    private static final String P20 = "Promise 20";
    private static final String P21 = "Promise 21";
    private static final String P22 = "Promise 22";
    private static final String BRANCH = "Whether (1 or 0) for a test 0 .. 5 (equal, not equal, less, not less, greater, not greater)"
        + " it is so for the INTs in REGISTERS a and b;";
    private static final String BRANCH_WAY = "a WAY is noted if their sets are not both empty.";
    private static final String NO_INT = "One is no INT: REFUSED.";
    private static final String SHADOW = "The SHADOW of REGISTER r: its set, plus 64 if it is EXACT.";
    private static final String CELL = "Cell i's BITS of ARRAY h as it would be loaded (what 0), its SHADOW as in shadow (1),";
    private static final String CELL_SORT = "or the SORT of h (2, i any int);";
    private static final String NONE = "NONE if there is none.";
    private static final String PIN = "Of the k-th PIN back, 0 being the newest: the OPERATION (what 0), the set (1);";
    private static final String WAY = "Of the k-th WAY back: whether it was so, 1 or 0 (what 0), the set (1), 1 if both operands were"
        + " EXACT, else 0 (2);";
    private static final String COUNT_SINCE = "0: PINS, 1: WAYS, 2: calls that answered an EXCEPTION, since the beginning;";
    private static final String COUNT_SETS = "3: REGISTERS with a set that is not empty.";
    private static final String LIMITS = "cell, pin and way answer NONE, not REFUSED, also for numbers out of their ranges.";

    private static final int MIN = Integer.MIN_VALUE;
    private static final int MAX = Integer.MAX_VALUE;

    public static void main(String[] args) {
        Boundary.run(BoundaryPromises14To22Test.class);
    }

    /** The six answers for a and b, from test 0 to test 5. */
    private static void branches(long a, long b, int... due) {
        ShadowMachine x = Given.constants(Codes.INT, a, b);
        for (int test = 0; test < 6; test++) {
            Check.due("branch(" + test + ") of " + a + " and " + b, x.branch(test, 0, 1), due[test]);
        }
    }

    @Sentence(at = P14, says = BRANCH)
    static void lessEqualAndGreaterAtTheEnds() {
        branches(MIN, MAX, 0, 1, 1, 0, 0, 1);
        branches(MAX, MIN, 0, 1, 0, 1, 1, 0);
        branches(MIN, MIN, 1, 0, 0, 1, 0, 1);
        branches(MAX, MAX, 1, 0, 0, 1, 0, 1);
        branches(MIN, 1, 0, 1, 1, 0, 0, 1);
        branches(1, MIN, 0, 1, 0, 1, 1, 0);
        branches(-1, 0, 0, 1, 1, 0, 0, 1);
        branches(0, 0, 1, 0, 0, 1, 0, 1);
        branches(1, 0, 0, 1, 0, 1, 1, 0);
    }

    @Sentence(at = P14, says = BRANCH)
    static void testsAndRegistersBesideTheEnds() {
        for (int test : Boundary.beside(0, 5)) {
            Boundary.refused("branch of test " + test, Given::busy, x -> x.branch(test, 0, 4));
        }
        for (int r : Boundary.beside(0, 7)) {
            Boundary.refused("branch of a " + r, Given::busy, x -> x.branch(0, r, 4));
            Boundary.refused("branch of b " + r, Given::busy, x -> x.branch(0, 4, r));
        }
    }

    @Sentence(at = P14, says = BRANCH)
    static void oneRegisterAsBothAndTheLastOnes() {
        ShadowMachine x = Given.busy();
        Check.due("branch(0, 0, 0)", x.branch(0, 0, 0), 1);
        Check.way(x, 0, 1, 1, 1);
        x.input(7, Codes.INT, 3, 5);
        Check.due("branch(5, 7, 0)", x.branch(5, 7, 0), 0);
        Check.way(x, 0, 0, 33, 1);
    }

    @Sentence(at = P14, says = BRANCH_WAY)
    static void bothEmptyNotesNothing() {
        Boundary.unchanged("branch of constants", Given::busy, x -> x.branch(2, 6, 7), 1);
        Boundary.unchanged("branch of constants", Given::busy, x -> x.branch(3, 6, 7), 0);
    }

    @Sentence(at = P14, says = BRANCH_WAY)
    static void oneEmptyNotesAWay() {
        ShadowMachine x = Given.busy();
        x.branch(4, 4, 6);
        Check.way(x, 0, 1, 16, 1);
        x.branch(4, 6, 4);
        Check.way(x, 0, 0, 16, 1);
        Check.counts(x, 1, 4, 1, 6);
    }

    @Sentence(at = P14, says = NO_INT)
    static void branchOfOneThatIsNoInt() {
        for (int r = Codes.LONG; r <= Codes.DOUBLE; r++) {
            int other = r;
            Boundary.refused("branch of a of KIND " + r, Given::busy, x -> x.branch(0, other, 0));
            Boundary.refused("branch of b of KIND " + r, Given::busy, x -> x.branch(0, 0, other));
            Boundary.refused("branch of both of KIND " + r, Given::busy, x -> x.branch(0, other, other));
        }
    }

    @Sentence(at = P15, says = "The KIND of REGISTER r.")
    static void kindOfTheFirstAndTheLastAndBeside() {
        ShadowMachine x = Given.busy();
        for (int r = 0; r < 4; r++) {
            Check.due("kind(" + r + ")", x.kind(r), r);
        }
        x.constant(7, Codes.DOUBLE, 0);
        Check.due("kind(7)", x.kind(7), Codes.DOUBLE);
        for (int r : Boundary.beside(0, 7)) {
            Boundary.refused("kind(" + r + ")", Given::busy, y -> y.kind(r));
        }
    }

    @Sentence(at = P16, says = "The BITS of REGISTER r;")
    static void bitsOfTheFirstAndTheLast() {
        ShadowMachine x = new ShadowMachine();
        x.constant(0, Codes.LONG, Long.MIN_VALUE);
        x.constant(7, Codes.LONG, Long.MAX_VALUE);
        Check.due("bits(0)", x.bits(0), Long.MIN_VALUE);
        Check.due("bits(7)", x.bits(7), Long.MAX_VALUE);
    }

    @Sentence(at = P16, says = "The BITS of REGISTER r;")
    static void bitsThatAreTheNumberOfNone() {
        ShadowMachine x = Given.constants(Codes.LONG, ShadowMachine.NONE, -1);
        Check.due("bits(0)", x.bits(0), 1234567890123456789L);
        Check.due("bits(1)", x.bits(1), -1);
    }

    @Sentence(at = P16, says = "NONE for another r.")
    static void bitsBesideTheEnds() {
        for (int r : Boundary.beside(0, 7)) {
            Boundary.unchanged("bits(" + r + ")", Given::busy, x -> x.bits(r), ShadowMachine.NONE);
        }
    }

    @Sentence(at = P17, says = SHADOW)
    static void emptyFullAndNotExactShadows() {
        ShadowMachine x = Given.inputs(Codes.INT, 1, 1, 1, 1, 1, 1);
        for (int r = 1; r < 6; r++) {
            x.two(Codes.ADD, 0, 0, r);
        }
        Check.due("empty", x.shadow(7), 64);
        Check.due("one INPUT", x.shadow(5), 96);
        Check.due("all INPUTS", x.shadow(0), 127);
        x.one(Codes.I2F, 0, 0);
        Check.due("all INPUTS, not EXACT", x.shadow(0), 63);
    }

    @Sentence(at = P17, says = SHADOW)
    static void shadowBesideTheEnds() {
        for (int r : Boundary.beside(0, 7)) {
            Boundary.refused("shadow(" + r + ")", Given::busy, x -> x.shadow(r));
        }
    }

    @Sentence(at = P18, says = CELL)
    static void cellAsItWouldBeLoaded() {
        long[] due = {1, -1, 65535, -1, -1};
        for (int sort = 0; sort < 5; sort++) {
            ShadowMachine x = Given.array(sort, 12);
            x.constant(0, Codes.INT, 11);
            x.input(1, Codes.INT, -1, 4);
            x.store(0, 0, 1);
            Check.cell(x, 0, 11, due[sort], sort < 4 ? 16 : 80);
            Check.cell(x, 0, 0, 0, 64);
        }
    }

    @Sentence(at = P18, says = CELL)
    static void askingForACellPinsNothing() {
        Boundary.unchanged("cell(0, 0, 0)", Given::busy, x -> x.cell(0, 0, 0), 1);
        Boundary.unchanged("cell(0, 0, 1)", Given::busy, x -> x.cell(0, 0, 1), 65);
        Boundary.unchanged("cell(2, 2, 1)", Given::busy, x -> x.cell(2, 2, 1), 64);
    }

    @Sentence(at = P18, says = CELL_SORT)
    static void theSortForAnyI() {
        for (int i : new int[] {MIN, -1, 0, 2, 3, 12, MAX}) {
            Check.due("cell(0, " + i + ", 2)", Given.busy().cell(0, i, 2), 4);
            Check.due("cell of no cells", Given.array(7, 0).cell(0, i, 2), 7);
            Check.due("cell of 12 cells", Given.array(0, 12).cell(0, i, 2), 0);
        }
    }

    private static void none(String call, long got) {
        Check.due(call, got, ShadowMachine.NONE);
    }

    @Sentence(at = P18, says = NONE)
    static void noArrayAndNoCell() {
        ShadowMachine x = Given.busy();
        for (int what = 0; what < 3; what++) {
            none("cell of null, " + what, x.cell(Given.NULL_ARRAY, 0, what));
        }
        for (int what = 0; what < 2; what++) {
            none("the cell before the first", x.cell(0, -1, what));
            none("the cell behind the last", x.cell(0, 3, what));
            none("a cell of no cells", Given.array(4, 0).cell(0, 0, what));
            none("the cell behind the twelfth", Given.array(4, 12).cell(0, 12, what));
        }
        x.drop(0);
        none("a cell of what was dropped", x.cell(0, 0, 0));
        none("the SORT of what was dropped", x.cell(0, 0, 2));
    }

    /** An object with so many PINS, the n-th of OPERATION 20 + n % 5 and of INPUT n % 6. */
    private static ShadowMachine withPins(int number) {
        ShadowMachine x = new ShadowMachine();
        for (int n = 0; n < number; n++) {
            x.input(0, Codes.DOUBLE, 0, n % 6);
            x.two(20 + n % 5, 1, 0, 0);
        }
        return x;
    }

    @Sentence(at = P19, says = PIN)
    static void theNewestAndTheOldestPin() {
        for (int number : new int[] {1, 15, 16, 17, 33}) {
            ShadowMachine x = withPins(number);
            int newest = number - 1;
            int oldest = Math.max(number - 16, 0);
            Check.pin(x, 0, 20 + newest % 5, 1 << newest % 6);
            Check.pin(x, newest - oldest, 20 + oldest % 5, 1 << oldest % 6);
        }
    }

    @Sentence(at = P19, says = PIN)
    static void theSetOfAPinThatWasNotExact() {
        ShadowMachine x = Given.busy();
        x.one(Codes.I2D, 5, 5);
        x.two(Codes.ADD, 6, 5, 5);
        Check.pin(x, 0, Codes.ADD, 17);
    }

    @Sentence(at = P19, says = NONE)
    static void noPin() {
        for (int number : new int[] {0, 1, 15, 16, 17, 33}) {
            ShadowMachine x = withPins(number);
            for (int what = 0; what < 2; what++) {
                none("the PIN behind the last, of " + number, x.pin(Math.min(number, 16), what));
                none("pin(16, " + what + "), of " + number, x.pin(16, what));
                none("pin(-1, " + what + "), of " + number, x.pin(-1, what));
            }
        }
    }

    /** An object with so many WAYS, the n-th so if n is even, of INPUT n % 6, not EXACT if n % 3 is 0. */
    private static ShadowMachine withWays(int number) {
        ShadowMachine x = new ShadowMachine();
        for (int n = 0; n < number; n++) {
            x.input(0, Codes.INT, 1, n % 6);
            if (n % 3 == 0) {
                x.two(Codes.MUL, 0, 0, 0);
            }
            x.branch(n % 2, 0, 0);
        }
        return x;
    }

    @Sentence(at = P20, says = WAY)
    static void theNewestAndTheOldestWay() {
        for (int number : new int[] {1, 15, 16, 17, 33}) {
            ShadowMachine x = withWays(number);
            int newest = number - 1;
            int oldest = Math.max(number - 16, 0);
            Check.way(x, 0, 1 - newest % 2, 1 << newest % 6, newest % 3 == 0 ? 0 : 1);
            Check.way(x, newest - oldest, 1 - oldest % 2, 1 << oldest % 6, oldest % 3 == 0 ? 0 : 1);
        }
    }

    @Sentence(at = P20, says = WAY)
    static void bothOperandsMustBeExact() {
        ShadowMachine x = Given.busy();
        x.branch(0, 0, 4);
        Check.way(x, 0, 0, 17, 1);
        x.branch(0, 0, 5);
        Check.way(x, 0, 0, 17, 0);
        x.branch(0, 5, 0);
        Check.way(x, 0, 0, 17, 0);
        x.branch(0, 5, 5);
        Check.way(x, 0, 1, 17, 0);
        x.branch(0, 6, 5);
        Check.way(x, 0, 0, 17, 0);
        x.branch(0, 6, 0);
        Check.way(x, 0, 0, 1, 1);
    }

    @Sentence(at = P20, says = NONE)
    static void noWay() {
        for (int number : new int[] {0, 1, 15, 16, 17, 33}) {
            ShadowMachine x = withWays(number);
            for (int what = 0; what < 3; what++) {
                none("the WAY behind the last, of " + number, x.way(Math.min(number, 16), what));
                none("way(16, " + what + "), of " + number, x.way(16, what));
                none("way(-1, " + what + "), of " + number, x.way(-1, what));
            }
        }
    }

    @Sentence(at = P21, says = COUNT_SINCE)
    static void countsGoOnBehindTheSixteenth() {
        for (int number : new int[] {0, 1, 16, 17, 100}) {
            Check.due("count(0)", withPins(number).count(0), number);
            Check.due("count(1)", withWays(number).count(1), number);
            ShadowMachine x = new ShadowMachine();
            for (int n = 0; n < number; n++) {
                x.length(0, 0);
            }
            Check.due("count(2)", x.count(2), number);
        }
    }

    @Sentence(at = P21, says = COUNT_SINCE)
    static void everyExceptionCountsAndNothingElse() {
        ShadowMachine x = Given.constants(Codes.INT, 0, -1);
        x.two(Codes.DIV, 2, 0, 0);
        x.two(Codes.REM, 2, 0, 0);
        x.load(2, 0, 0);
        x.store(0, 0, 0);
        x.length(2, 0);
        x.copy(0, 0, 0, 0, 0);
        x.array(0, 4, 1);
        Check.due("count(2) of ARITHMETIC, NULL and NEGATIVE", x.count(2), 7);
        x.array(0, 4, 0);
        x.array(1, 5, 0);
        x.load(2, 0, 0);
        x.store(0, 0, 0);
        x.copy(0, 0, 0, 0, 1);
        x.store(1, 0, 0);
        x.copy(0, 0, 1, 0, 0);
        Check.due("count(2) of BOUNDS and STORE", x.count(2), 12);
        x.array(0, 9, 1);
        x.kind(8);
        x.cell(0, 0, 0);
        x.branch(0, 0, 1);
        x.constant(3, Codes.INT, ShadowMachine.NULL);
        x.bits(3);
        Check.due("count(2) of REFUSED and other answers", x.count(2), 12);
    }

    @Sentence(at = P21, says = COUNT_SETS)
    static void noneAndAllEightRegisters() {
        ShadowMachine x = new ShadowMachine();
        Check.due("count(3) of none", x.count(3), 0);
        for (int r = 0; r < 8; r++) {
            x.input(r, Codes.INT, 1, 5);
            Check.due("count(3)", x.count(3), r + 1);
        }
        x.two(Codes.MUL, 7, 7, 7);
        Check.due("count(3) with one that is not EXACT", x.count(3), 8);
        x.array(0, 4, 0);
        Check.due("count(3) after a PIN", x.count(3), 7);
        x.constant(7, Codes.INT, 0);
        Check.due("count(3) after a constant", x.count(3), 6);
    }

    @Sentence(at = P21, says = COUNT_SETS)
    static void cellsWithASetDoNotCount() {
        ShadowMachine x = Given.array(4, 1);
        x.input(1, Codes.INT, 1, 5);
        x.store(0, 0, 1);
        x.constant(1, Codes.INT, 1);
        Check.due("count(3)", x.count(3), 0);
    }

    @Sentence(at = P21, says = "Else REFUSED.")
    static void countBesideTheEnds() {
        for (int what : Boundary.beside(0, 3)) {
            Boundary.refused("count(" + what + ")", Given::busy, x -> x.count(what));
        }
    }

    private static ShadowMachine withNotes() {
        ShadowMachine x = withPins(20);
        for (int n = 0; n < 20; n++) {
            x.input(0, Codes.INT, 1, 3);
            x.branch(0, 0, 0);
        }
        return x;
    }

    @Sentence(at = P22, says = LIMITS)
    static void cellOfNumbersOutOfRange() {
        for (int what = -1; what < 4; what++) {
            int asked = what;
            for (int h : Boundary.beside(0, 3)) {
                Boundary.unchanged("cell(" + h + ", 0, " + what + ")", Given::busy, x -> x.cell(h, 0, asked), ShadowMachine.NONE);
            }
        }
        for (int i : Boundary.beside(0, 11)) {
            Boundary.unchanged("cell(0, " + i + ", 0)", () -> Given.array(4, 12), x -> x.cell(0, i, 0), ShadowMachine.NONE);
            Boundary.unchanged("cell(0, " + i + ", 1)", () -> Given.array(4, 12), x -> x.cell(0, i, 1), ShadowMachine.NONE);
        }
        for (int what : Boundary.beside(0, 2)) {
            Boundary.unchanged("cell(0, 0, " + what + ")", Given::busy, x -> x.cell(0, 0, what), ShadowMachine.NONE);
            Boundary.unchanged("cell(3, 0, " + what + ")", Given::busy, x -> x.cell(3, 0, what), ShadowMachine.NONE);
        }
    }

    @Sentence(at = P22, says = LIMITS)
    static void pinOfNumbersOutOfRange() {
        for (int k : Boundary.beside(0, 15)) {
            Boundary.unchanged("pin(" + k + ", 0)", BoundaryPromises14To22Test::withNotes, x -> x.pin(k, 0), ShadowMachine.NONE);
            Boundary.unchanged("pin(" + k + ", 1)", BoundaryPromises14To22Test::withNotes, x -> x.pin(k, 1), ShadowMachine.NONE);
        }
        for (int what : Boundary.beside(0, 1)) {
            Boundary.unchanged("pin(0, " + what + ")", BoundaryPromises14To22Test::withNotes, x -> x.pin(0, what), ShadowMachine.NONE);
        }
    }

    @Sentence(at = P22, says = LIMITS)
    static void wayOfNumbersOutOfRange() {
        for (int k : Boundary.beside(0, 15)) {
            for (int what = 0; what < 3; what++) {
                int asked = what;
                Boundary.unchanged("way(" + k + ", " + what + ")", BoundaryPromises14To22Test::withNotes, x -> x.way(k, asked),
                    ShadowMachine.NONE);
            }
        }
        for (int what : Boundary.beside(0, 2)) {
            Boundary.unchanged("way(0, " + what + ")", BoundaryPromises14To22Test::withNotes, x -> x.way(0, what), ShadowMachine.NONE);
        }
    }
}

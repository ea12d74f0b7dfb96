/**
 * The numbers and arrays of a virtual machine with a shadow: registers and typed arrays are worked
 * on as the machine's instructions do, bit for bit, and beside it is followed which inputs each of
 * them depends on, where that is exact, where it was given up, and which ways were taken.
 *
 * A value is held as its BITS, a SHADOW as the number that the method shadow answers.
 */
public final class ShadowMachine {
    public static final int OK = 0;
    public static final int REFUSED = -1;
    public static final int ARITHMETIC = -2;
    public static final int NULL = -3;
    public static final int BOUNDS = -4;
    public static final int NEGATIVE = -5;
    public static final int STORE = -6;
    public static final long NONE = 1234567890123456789L;

    private static final int INT = 0;
    private static final int LONG = 1;
    private static final int FLOAT = 2;
    private static final int DOUBLE = 3;

    private static final int KINDS = 4;
    private static final int REGISTERS = 8;
    private static final int INPUTS = 6;
    private static final int ARRAYS = 4;
    private static final int SORTS = 8;
    private static final int TESTS = 6;
    private static final int MOST_CELLS = 12;
    private static final int KEPT_NOTES = 16;

    private static final int SET = 63;
    private static final int EXACT = 64;

    private static final int MAKING = 40;
    private static final int LOADING = 41;
    private static final int STORING = 42;

    private final int[] kinds = new int[REGISTERS];
    private final long[] values = new long[REGISTERS];
    private final int[] shadows = new int[REGISTERS];
    private final Cells[] arrays = new Cells[ARRAYS];
    private final Cells[] pool = new Cells[ARRAYS];
    private final Notes pins = new Notes();
    private final Notes ways = new Notes();
    private int exceptions;

    public ShadowMachine() {
        for (int r = 0; r < REGISTERS; r++) {
            shadows[r] = EXACT;
        }
        for (int i = 0; i < ARRAYS; i++) {
            pool[i] = new Cells();
        }
    }

    public int constant(int r, int kind, long bits) {
        if (!isBelow(r, REGISTERS) || !isBelow(kind, KINDS)) {
            return REFUSED;
        }
        put(r, kind, held(kind, bits), EXACT);
        return OK;
    }

    public int input(int r, int kind, long bits, int k) {
        if (!isBelow(r, REGISTERS) || !isBelow(kind, KINDS) || !isBelow(k, INPUTS)) {
            return REFUSED;
        }
        put(r, kind, held(kind, bits), EXACT + (1 << k));
        return OK;
    }

    public int one(int operation, int r, int a) {
        if (!isBelow(r, REGISTERS) || !isBelow(a, REGISTERS) || !Single.takes(operation, kinds[a])) {
            return REFUSED;
        }
        int shadow = Single.rounds(operation) ? inexact(shadows[a]) : shadows[a];
        put(r, Single.resultKind(operation, kinds[a]), Single.result(operation, kinds[a], values[a]), shadow);
        return OK;
    }

    public int two(int operation, int r, int a, int b) {
        if (!isBelow(r, REGISTERS) || !isBelow(a, REGISTERS) || !isBelow(b, REGISTERS)) {
            return REFUSED;
        }
        int kind = kinds[a];
        if (!Pair.takes(operation, kind, kinds[b])) {
            return REFUSED;
        }
        if (Pair.divides(operation) && !isFloating(kind) && values[b] == 0) {
            return failed(ARITHMETIC);
        }
        long result = isFloating(kind)
                ? Pair.floatingResult(operation, formatOf(kind), values[a], values[b])
                : Pair.wholeResult(operation, kind, values[a], values[b]);
        put(r, Pair.resultKind(operation, kind), result, shadowOfTwo(operation, a, b));
        return OK;
    }

    public int move(int r, int a) {
        if (!isBelow(r, REGISTERS) || !isBelow(a, REGISTERS)) {
            return REFUSED;
        }
        put(r, kinds[a], values[a], shadows[a]);
        return OK;
    }

    public int array(int h, int sort, int n) {
        if (!isBelow(h, ARRAYS) || !isBelow(sort, SORTS) || !isInt(n) || values[n] > MOST_CELLS) {
            return REFUSED;
        }
        if (values[n] < 0) {
            return failed(NEGATIVE);
        }
        giveUp(n, MAKING);
        arrays[h] = null;
        Cells fresh = unheld();
        fresh.renew(sort, (int) values[n]);
        arrays[h] = fresh;
        return OK;
    }

    public int drop(int h) {
        if (!isBelow(h, ARRAYS)) {
            return REFUSED;
        }
        arrays[h] = null;
        return OK;
    }

    public int share(int h, int g) {
        if (!isBelow(h, ARRAYS) || !isBelow(g, ARRAYS)) {
            return REFUSED;
        }
        arrays[h] = arrays[g];
        return OK;
    }

    public int load(int r, int h, int i) {
        if (!isBelow(r, REGISTERS) || !isBelow(h, ARRAYS) || !isInt(i)) {
            return REFUSED;
        }
        Cells cells = arrays[h];
        if (cells == null) {
            return failed(NULL);
        }
        if (!isBelow(values[i], cells.size)) {
            return failed(BOUNDS);
        }
        int index = (int) values[i];
        giveUp(i, LOADING);
        put(r, cells.kindTaken(), cells.values[index], cells.shadows[index]);
        return OK;
    }

    public int store(int h, int i, int a) {
        if (!isBelow(h, ARRAYS) || !isInt(i) || !isBelow(a, REGISTERS)) {
            return REFUSED;
        }
        Cells cells = arrays[h];
        if (cells == null) {
            return failed(NULL);
        }
        if (cells.kindTaken() != kinds[a]) {
            return failed(STORE);
        }
        if (!isBelow(values[i], cells.size)) {
            return failed(BOUNDS);
        }
        cells.keep((int) values[i], values[a], shadows[a]);
        giveUp(i, STORING);
        return OK;
    }

    public int length(int r, int h) {
        if (!isBelow(r, REGISTERS) || !isBelow(h, ARRAYS)) {
            return REFUSED;
        }
        Cells cells = arrays[h];
        if (cells == null) {
            return failed(NULL);
        }
        put(r, INT, cells.size, EXACT);
        return OK;
    }

    public int copy(int g, int p, int h, int q, int n) {
        if (!isBelow(g, ARRAYS) || !isBelow(h, ARRAYS)) {
            return REFUSED;
        }
        Cells from = arrays[g];
        Cells to = arrays[h];
        if (from == null || to == null) {
            return failed(NULL);
        }
        if (from.sort != to.sort) {
            return failed(STORE);
        }
        if (!from.hasRun(p, n) || !to.hasRun(q, n)) {
            return failed(BOUNDS);
        }
        System.arraycopy(from.values, p, to.values, q, n);
        System.arraycopy(from.shadows, p, to.shadows, q, n);
        return OK;
    }

    public int branch(int test, int a, int b) {
        if (!isBelow(test, TESTS) || !isInt(a) || !isInt(b)) {
            return REFUSED;
        }
        int so = isSo(test, values[a], values[b]) ? 1 : 0;
        int shadow = joined(shadows[a], shadows[b]);
        if ((shadow & SET) != 0) {
            ways.add(so, shadow & SET, (shadow & EXACT) != 0 ? 1 : 0);
        }
        return so;
    }

    public int kind(int r) {
        return isBelow(r, REGISTERS) ? kinds[r] : REFUSED;
    }

    public long bits(int r) {
        return isBelow(r, REGISTERS) ? values[r] : NONE;
    }

    public int shadow(int r) {
        return isBelow(r, REGISTERS) ? shadows[r] : REFUSED;
    }

    public long cell(int h, int i, int what) {
        if (!isBelow(h, ARRAYS) || arrays[h] == null) {
            return NONE;
        }
        Cells cells = arrays[h];
        if (what == 2) {
            return cells.sort;
        }
        if (!isBelow(i, cells.size) || !isBelow(what, 2)) {
            return NONE;
        }
        return what == 0 ? cells.values[i] : cells.shadows[i];
    }

    public long pin(int k, int what) {
        return isBelow(what, 2) ? pins.told(k, what) : NONE;
    }

    public long way(int k, int what) {
        return isBelow(what, 3) ? ways.told(k, what) : NONE;
    }

    public int count(int what) {
        switch (what) {
            case 0:
                return pins.added;
            case 1:
                return ways.added;
            case 2:
                return exceptions;
            case 3:
                return dependentRegisters();
            default:
                return REFUSED;
        }
    }

    private static boolean isBelow(long number, int bound) {
        return number >= 0 && number < bound;
    }

    private static boolean isFloating(int kind) {
        return kind == FLOAT || kind == DOUBLE;
    }

    private static Format formatOf(int kind) {
        return kind == FLOAT ? Format.BITS32 : Format.BITS64;
    }

    /** The BITS as a REGISTER holds them: no wider than the KIND, and one NaN for all. */
    private static long held(int kind, long bits) {
        if (kind == INT) {
            return (int) bits;
        }
        if (kind == FLOAT) {
            return Format.BITS32.withOneNan((int) bits);
        }
        return kind == DOUBLE ? Format.BITS64.withOneNan(bits) : bits;
    }

    private static int joined(int shadow, int other) {
        return ((shadow | other) & SET) | (shadow & other & EXACT);
    }

    private static int inexact(int shadow) {
        int set = shadow & SET;
        return set == 0 ? EXACT : set;
    }

    private static boolean isSo(int test, long a, long b) {
        switch (test) {
            case 0:
                return a == b;
            case 1:
                return a != b;
            case 2:
                return a < b;
            case 3:
                return a >= b;
            case 4:
                return a > b;
            default:
                return a <= b;
        }
    }

    private boolean isInt(int r) {
        return isBelow(r, REGISTERS) && kinds[r] == INT;
    }

    private void put(int r, int kind, long value, int shadow) {
        kinds[r] = kind;
        values[r] = value;
        shadows[r] = shadow;
    }

    private int failed(int exception) {
        exceptions++;
        return exception;
    }

    /** PINS REGISTER r. */
    private void giveUp(int r, int operation) {
        int set = shadows[r] & SET;
        if (set != 0) {
            pins.add(operation, set, 0);
            shadows[r] = EXACT;
        }
    }

    /** The SHADOW of a result of two operands; they are PINNED where it can't be followed. */
    private int shadowOfTwo(int operation, int a, int b) {
        if (isFloating(kinds[a]) && Pair.calculates(operation)) {
            giveUp(a, operation);
            giveUp(b, operation);
            return EXACT;
        }
        int shadow = joined(shadows[a], shadows[b]);
        boolean bothDepend = (shadows[a] & SET) != 0 && (shadows[b] & SET) != 0;
        return bothDepend && Pair.mixes(operation) ? inexact(shadow) : shadow;
    }

    private int dependentRegisters() {
        int number = 0;
        for (int r = 0; r < REGISTERS; r++) {
            if ((shadows[r] & SET) != 0) {
                number++;
            }
        }
        return number;
    }

    /** Cells that no ARRAY holds: there are some whenever one of the ARRAYS is null. */
    private Cells unheld() {
        Cells free = pool[0];
        for (int i = 1; i < ARRAYS; i++) {
            if (!isHeld(pool[i])) {
                free = pool[i];
            }
        }
        return free;
    }

    private boolean isHeld(Cells cells) {
        for (int h = 0; h < ARRAYS; h++) {
            if (arrays[h] == cells) {
                return true;
            }
        }
        return false;
    }

    /** The cells of one ARRAY, used again when no ARRAY holds them any more. */
    private static final class Cells {
        private static final int BOOLEAN = 0;
        private static final int BYTE = 1;
        private static final int CHAR = 2;
        private static final int SHORT = 3;
        private static final int WHOLE_INT = 4;

        final long[] values = new long[MOST_CELLS];
        final int[] shadows = new int[MOST_CELLS];
        int sort;
        int size;

        void renew(int newSort, int newSize) {
            sort = newSort;
            size = newSize;
            for (int i = 0; i < MOST_CELLS; i++) {
                values[i] = 0;
                shadows[i] = EXACT;
            }
        }

        /** From int on, the SORTS are in the order of the KINDS. */
        int kindTaken() {
            return sort < WHOLE_INT ? INT : sort - WHOLE_INT;
        }

        boolean hasRun(int place, int number) {
            return place >= 0 && number >= 0 && (long) place + number <= size;
        }

        void keep(int index, long value, int shadow) {
            values[index] = narrowed(value);
            shadows[index] = sort < WHOLE_INT ? inexact(shadow) : shadow;
        }

        private long narrowed(long value) {
            switch (sort) {
                case BOOLEAN:
                    return value & 1;
                case BYTE:
                    return (byte) value;
                case CHAR:
                    return (char) value;
                case SHORT:
                    return (short) value;
                default:
                    return value;
            }
        }
    }

    /** How many notes there were, and the last of them, written over in turn. */
    private static final class Notes {
        private static final int NUMBERS = 3;

        private final int[] numbers = new int[KEPT_NOTES * NUMBERS];
        int added;

        void add(int first, int second, int third) {
            int start = startOf(added);
            numbers[start] = first;
            numbers[start + 1] = second;
            numbers[start + 2] = third;
            added++;
        }

        long told(int back, int what) {
            if (back < 0 || back >= KEPT_NOTES || back >= added || !isBelow(what, NUMBERS)) {
                return NONE;
            }
            return numbers[startOf(added - 1 - back) + what];
        }

        private static int startOf(int note) {
            return (note & (KEPT_NOTES - 1)) * NUMBERS;
        }
    }

    /** The OPERATIONS OF ONE operand. */
    private static final class Single {
        private static final int I2L = 0;
        private static final int I2F = 1;
        private static final int I2D = 2;
        private static final int L2I = 3;
        private static final int L2F = 4;
        private static final int L2D = 5;
        private static final int F2I = 6;
        private static final int F2L = 7;
        private static final int F2D = 8;
        private static final int D2I = 9;
        private static final int D2L = 10;
        private static final int D2F = 11;
        private static final int I2B = 12;
        private static final int I2C = 13;
        private static final int I2S = 14;
        private static final int NEG = 15;
        private static final int ABSOLUTE = 16;
        private static final int TO_BITS = 17;
        private static final int FROM_BITS = 18;

        private static final long LEAST_INT = -0x80000000L;
        private static final long GREATEST_INT = 0x7FFFFFFFL;

        private static final int[] CONVERTED_FROM = {
            INT, INT, INT, LONG, LONG, LONG, FLOAT, FLOAT, FLOAT, DOUBLE, DOUBLE, DOUBLE, INT, INT, INT
        };
        private static final int[] CONVERTED_TO = {
            LONG, FLOAT, DOUBLE, INT, FLOAT, DOUBLE, INT, LONG, DOUBLE, INT, LONG, FLOAT, INT, INT, INT
        };

        static boolean takes(int operation, int kind) {
            if (isBelow(operation, NEG)) {
                return CONVERTED_FROM[operation] == kind;
            }
            switch (operation) {
                case NEG:
                case ABSOLUTE:
                    return true;
                case TO_BITS:
                    return isFloating(kind);
                case FROM_BITS:
                    return !isFloating(kind);
                default:
                    return false;
            }
        }

        static boolean rounds(int operation) {
            return operation == I2F || operation == L2F || operation == L2D || operation == D2F;
        }

        static int resultKind(int operation, int kind) {
            if (isBelow(operation, NEG)) {
                return CONVERTED_TO[operation];
            }
            if (operation == TO_BITS) {
                return kind == FLOAT ? INT : LONG;
            }
            if (operation == FROM_BITS) {
                return kind == INT ? FLOAT : DOUBLE;
            }
            return kind;
        }

        static long result(int operation, int kind, long value) {
            switch (operation) {
                case I2L:
                case TO_BITS:
                    return value;
                case L2I:
                    return (int) value;
                case I2F:
                case L2F:
                    return Format.BITS32.ofWhole(value);
                case I2D:
                case L2D:
                    return Format.BITS64.ofWhole(value);
                case F2I:
                    return nearestInt(Format.BITS32.truncated(value));
                case F2L:
                    return Format.BITS32.truncated(value);
                case F2D:
                    return Format.BITS64.ofOther(Format.BITS32, value);
                case D2I:
                    return nearestInt(Format.BITS64.truncated(value));
                case D2L:
                    return Format.BITS64.truncated(value);
                case D2F:
                    return Format.BITS32.ofOther(Format.BITS64, value);
                case I2B:
                    return (byte) value;
                case I2C:
                    return (char) value;
                case I2S:
                    return (short) value;
                case NEG:
                    return isFloating(kind) ? formatOf(kind).negated(value) : held(kind, -value);
                case ABSOLUTE:
                    return isFloating(kind) ? formatOf(kind).magnitude(value) : held(kind, Math.abs(value));
                default:
                    return held(resultKind(operation, kind), value);
            }
        }

        private static long nearestInt(long value) {
            return Math.max(LEAST_INT, Math.min(GREATEST_INT, value));
        }
    }

    /** The OPERATIONS OF TWO operands. */
    private static final class Pair {
        private static final int ADD = 20;
        private static final int SUB = 21;
        private static final int MUL = 22;
        private static final int DIV = 23;
        private static final int REM = 24;
        private static final int LEAST = 25;
        private static final int GREATEST = 26;
        private static final int SHL = 27;
        private static final int SHR = 28;
        private static final int USHR = 29;
        private static final int AND = 30;
        private static final int OR = 31;
        private static final int XOR = 32;
        private static final int CMPL = 33;
        private static final int CMPG = 34;

        private static final long LOW_32_BITS = 0xFFFFFFFFL;

        static boolean takes(int operation, int kind, int otherKind) {
            if (operation < ADD || operation > CMPG) {
                return false;
            }
            if (operation >= SHL && operation <= USHR) {
                return !isFloating(kind) && otherKind == INT;
            }
            if (kind != otherKind) {
                return false;
            }
            if (operation >= AND && operation <= XOR) {
                return !isFloating(kind);
            }
            return operation < CMPL || kind != INT;
        }

        static boolean divides(int operation) {
            return operation == DIV || operation == REM;
        }

        static boolean calculates(int operation) {
            return operation >= ADD && operation <= REM;
        }

        static boolean mixes(int operation) {
            return operation == MUL || divides(operation);
        }

        static int resultKind(int operation, int kind) {
            return operation >= CMPL ? INT : kind;
        }

        /** Of INT and LONG: an INT is worked on as the LONG of its number, then cut to 32 bits. */
        static long wholeResult(int operation, int kind, long a, long b) {
            long result = operation < SHL ? calculated(operation, a, b) : combined(operation, kind, a, b);
            return kind == INT ? (int) result : result;
        }

        private static long calculated(int operation, long a, long b) {
            switch (operation) {
                case ADD:
                    return a + b;
                case SUB:
                    return a - b;
                case MUL:
                    return a * b;
                case DIV:
                    return b == 0 ? 0 : a / b;
                case REM:
                    return b == 0 ? 0 : a % b;
                case LEAST:
                    return Math.min(a, b);
                default:
                    return Math.max(a, b);
            }
        }

        private static long combined(int operation, int kind, long a, long b) {
            int places = (int) b & (kind == INT ? 31 : 63);
            switch (operation) {
                case SHL:
                    return a << places;
                case SHR:
                    return a >> places;
                case USHR:
                    return (kind == INT ? a & LOW_32_BITS : a) >>> places;
                case AND:
                    return a & b;
                case OR:
                    return a | b;
                case XOR:
                    return a ^ b;
                default:
                    return Long.compare(a, b);
            }
        }

        static long floatingResult(int operation, Format format, long a, long b) {
            switch (operation) {
                case ADD:
                    return format.sum(a, b);
                case SUB:
                    return format.sum(a, format.negated(b));
                case MUL:
                    return format.product(a, b);
                case DIV:
                    return format.quotient(a, b);
                case REM:
                    return format.remainder(a, b);
                case LEAST:
                    return format.least(a, b);
                case GREATEST:
                    return format.greatest(a, b);
                case CMPL:
                    return format.compared(a, b, -1);
                default:
                    return format.compared(a, b, 1);
            }
        }
    }

    /**
     * FLOAT and DOUBLE worked on by their BITS alone, with whole numbers: LANGUAGE.md leaves no way
     * between a floating number and its bits, and no NaN.
     *
     * A finite number that is not 0 is its significand, of SIGNIFICAND_BITS bits in both formats,
     * times 2 to the power of its exponent.
     */
    private enum Format {
        BITS32(24, -149, 0xFFFFFFFF80000000L),
        BITS64(53, -1074, 0x8000000000000000L);

        private static final long LEAST_LONG = 0x8000000000000000L;
        private static final long GREATEST_LONG = 0x7FFFFFFFFFFFFFFFL;
        private static final int SIGNIFICAND_BITS = 53;
        // room below a significand for what is shifted out, and above it for a carry
        private static final int SUM_ROOM = 9;
        private static final int PRODUCT_DROPPED = 44;
        private static final int HALF_BITS = 27;
        private static final long HALF_MASK = (1L << HALF_BITS) - 1;
        // a remainder below a significand can be shifted so far and is still no negative long
        private static final int STEP = 10;
        private static final int QUOTIENT_STEPS = 6;

        private final int fractionBits;
        private final int leastExponent;
        private final int mostField;
        private final long sign;
        private final long infinity;
        private final long nan;

        Format(int precision, int leastExponent, long sign) {
            this.fractionBits = precision - 1;
            this.leastExponent = leastExponent;
            this.sign = sign;
            this.mostField = (int) (~sign >>> fractionBits);
            this.infinity = (long) mostField << fractionBits;
            this.nan = infinity | 1L << (fractionBits - 1);
        }

        long withOneNan(long bits) {
            return isNan(bits) ? nan : bits;
        }

        long negated(long bits) {
            return isNan(bits) ? nan : bits ^ sign;
        }

        long magnitude(long bits) {
            return bits & ~sign;
        }

        long least(long a, long b) {
            if (isNan(a) || isNan(b)) {
                return nan;
            }
            // of the two zeros the one with the sign is the less
            return order(a) == order(b) ? a | b : order(a) < order(b) ? a : b;
        }

        long greatest(long a, long b) {
            if (isNan(a) || isNan(b)) {
                return nan;
            }
            return order(a) == order(b) ? a & b : order(a) > order(b) ? a : b;
        }

        int compared(long a, long b, int withNan) {
            return isNan(a) || isNan(b) ? withNan : Long.compare(order(a), order(b));
        }

        long ofWhole(long number) {
            if (number == 0) {
                return 0;
            }
            if (number == LEAST_LONG) {
                return rounded(true, 1, 1L << 62);
            }
            return rounded(number < 0, 0, Math.abs(number));
        }

        long ofOther(Format other, long bits) {
            if (other.isNan(bits)) {
                return nan;
            }
            if (other.isInfinite(bits)) {
                return signed(other.isNegative(bits), infinity);
            }
            if (other.isZero(bits)) {
                return signed(other.isNegative(bits), 0);
            }
            return rounded(other.isNegative(bits), other.exponent(bits), other.significand(bits));
        }

        /** The whole number towards 0, or the nearest LONG to it. */
        long truncated(long bits) {
            if (isNan(bits) || isZero(bits)) {
                return 0;
            }
            int exponent = exponent(bits);
            if (isInfinite(bits) || exponent > 63 - SIGNIFICAND_BITS) {
                return isNegative(bits) ? LEAST_LONG : GREATEST_LONG;
            }
            if (exponent <= -SIGNIFICAND_BITS) {
                return 0;
            }
            long whole = exponent < 0 ? significand(bits) >>> -exponent : significand(bits) << exponent;
            return isNegative(bits) ? -whole : whole;
        }

        long sum(long a, long b) {
            if (isNan(a) || isNan(b)) {
                return nan;
            }
            if (isInfinite(a)) {
                return isInfinite(b) && a != b ? nan : a;
            }
            if (isInfinite(b)) {
                return b;
            }
            if (isZero(a)) {
                return isZero(b) ? a & b : b;
            }
            if (isZero(b)) {
                return a;
            }
            return exponent(a) >= exponent(b) ? sumInOrder(a, b) : sumInOrder(b, a);
        }

        private long sumInOrder(long high, long low) {
            int exponent = exponent(high);
            long larger = significand(high) << SUM_ROOM;
            long smaller = shiftedDown(significand(low) << SUM_ROOM, exponent - exponent(low));
            if (isNegative(high) == isNegative(low)) {
                return rounded(isNegative(high), exponent - SUM_ROOM, larger + smaller);
            }
            long rest = larger - smaller;
            if (rest == 0) {
                return 0;
            }
            boolean negative = rest > 0 ? isNegative(high) : isNegative(low);
            return rounded(negative, exponent - SUM_ROOM, Math.abs(rest));
        }

        long product(long a, long b) {
            if (isNan(a) || isNan(b)) {
                return nan;
            }
            boolean negative = isNegative(a) != isNegative(b);
            boolean zero = isZero(a) || isZero(b);
            if (isInfinite(a) || isInfinite(b)) {
                return zero ? nan : signed(negative, infinity);
            }
            if (zero) {
                return signed(negative, 0);
            }
            int exponent = exponent(a) + exponent(b) + PRODUCT_DROPPED;
            return rounded(negative, exponent, highProduct(significand(a), significand(b)));
        }

        long quotient(long a, long b) {
            if (isNan(a) || isNan(b) || isInfinite(a) && isInfinite(b) || isZero(a) && isZero(b)) {
                return nan;
            }
            boolean negative = isNegative(a) != isNegative(b);
            if (isInfinite(a) || isZero(b)) {
                return signed(negative, infinity);
            }
            if (isZero(a) || isInfinite(b)) {
                return signed(negative, 0);
            }
            int exponent = exponent(a) - exponent(b) - STEP * QUOTIENT_STEPS;
            return rounded(negative, exponent, longQuotient(significand(a), significand(b)));
        }

        long remainder(long a, long b) {
            if (isNan(a) || isNan(b) || isInfinite(a) || isZero(b)) {
                return nan;
            }
            if (isZero(a) || isInfinite(b) || exponent(a) < exponent(b)) {
                return a;
            }
            long left = longRemainder(significand(a), significand(b), exponent(a) - exponent(b));
            return left == 0 ? signed(isNegative(a), 0) : rounded(isNegative(a), exponent(b), left);
        }

        private boolean isNan(long bits) {
            return magnitude(bits) > infinity;
        }

        private boolean isInfinite(long bits) {
            return magnitude(bits) == infinity;
        }

        private boolean isZero(long bits) {
            return magnitude(bits) == 0;
        }

        private boolean isNegative(long bits) {
            return (bits & sign) != 0;
        }

        private long signed(boolean negative, long magnitude) {
            return negative ? magnitude | sign : magnitude;
        }

        /** Orders numbers as their values do; both zeros have one place. */
        private long order(long bits) {
            return isNegative(bits) ? -magnitude(bits) : bits;
        }

        private int exponent(long bits) {
            int field = (int) (magnitude(bits) >>> fractionBits);
            return leastExponent + Math.max(field - 1, 0) - placesUp(unscaled(bits));
        }

        private long significand(long bits) {
            long unscaled = unscaled(bits);
            return unscaled << placesUp(unscaled);
        }

        private long unscaled(long bits) {
            long leading = 1L << fractionBits;
            long fraction = bits & (leading - 1);
            return magnitude(bits) < leading ? fraction : fraction | leading;
        }

        private static int placesUp(long unscaled) {
            return Math.max(Long.numberOfLeadingZeros(unscaled) - (64 - SIGNIFICAND_BITS), 0);
        }

        /** The BITS nearest to a positive number times 2 to the power of exponent, ties to even. */
        private long rounded(boolean negative, int exponent, long number) {
            int tooLong = 63 - fractionBits - Long.numberOfLeadingZeros(number);
            int excess = Math.max(tooLong, leastExponent - exponent);
            int above = exponent + excess - leastExponent;
            if (above >= mostField - 1) {
                return signed(negative, infinity);
            }
            long kept = excess > 0 ? shiftedToEven(number, excess) : number << -excess;
            // the leading bit of kept counts the field of the exponent up by one, and so does a carry
            return signed(negative, ((long) above << fractionBits) + kept);
        }

        private static long shiftedToEven(long number, int places) {
            if (places > 63) {
                return 0;
            }
            long kept = number >>> places;
            long rest = number - (kept << places);
            long half = 1L << (places - 1);
            boolean up = rest > half || rest == half && (kept & 1) == 1;
            return up ? kept + 1 : kept;
        }

        /** Shifts down; the last bit tells if anything but zeros was lost. */
        private static long shiftedDown(long number, int places) {
            if (places > 62) {
                return 1;
            }
            long kept = number >>> places;
            return kept << places == number ? kept : kept | 1;
        }

        /** The product of two significands without its last PRODUCT_DROPPED bits, as shiftedDown. */
        private static long highProduct(long a, long b) {
            long aHigh = a >>> HALF_BITS;
            long aLow = a & HALF_MASK;
            long bHigh = b >>> HALF_BITS;
            long bLow = b & HALF_MASK;
            long middle = aHigh * bLow + aLow * bHigh;
            long low = aLow * bLow + ((middle & HALF_MASK) << HALF_BITS);
            long high = aHigh * bHigh + (middle >>> HALF_BITS);
            return (high << 2 * HALF_BITS - PRODUCT_DROPPED) + shiftedDown(low, PRODUCT_DROPPED);
        }

        /** The quotient of two significands times 2 to the power of STEP * QUOTIENT_STEPS, as shiftedDown. */
        private static long longQuotient(long a, long b) {
            if (b == 0) {
                return 0;
            }
            long quotient = a / b;
            long left = a % b;
            for (int i = 0; i < QUOTIENT_STEPS; i++) {
                left <<= STEP;
                quotient = (quotient << STEP) + left / b;
                left %= b;
            }
            return left == 0 ? quotient : quotient | 1;
        }

        /** What is left of a times 2 to the power of places after division by b. */
        private static long longRemainder(long a, long b, int places) {
            if (b == 0) {
                return 0;
            }
            long left = a % b;
            for (int open = places; open > 0; open -= STEP) {
                left = (left << Math.min(STEP, open)) % b;
            }
            return left;
        }
    }
}

import java.lang.reflect.Array;
import java.util.ArrayList;
import java.util.List;
import java.util.Set;
import java.util.TreeSet;

/**
 * What the document says, written a second time and otherwise than in ShadowMachine: with Java's own numbers, arrays and
 * exceptions. RandomRunsTest holds the two against each other.
 */
final class PlainMachine {
    private static final Class<?>[] TYPES = {
        boolean.class, byte.class, char.class, short.class, int.class, long.class, float.class, double.class
    };
    private static final String KIND_LETTERS = "ilfd";
    private static final String[] CONVERSIONS = {
        "i2l", "i2f", "i2d", "l2i", "l2f", "l2d", "f2i", "f2l", "f2d", "d2i", "d2l", "d2f", "i2b", "i2c", "i2s"
    };

    /** A call that the document refuses. */
    private static final class Refused extends RuntimeException {
        private static final long serialVersionUID = 1L;
    }

    private record Shadow(Set<Integer> inputs, boolean exact) {
        static final Shadow EMPTY = new Shadow(Set.of(), true);

        int told() {
            return set() + (exact ? 64 : 0);
        }

        int set() {
            return inputs.stream().mapToInt(k -> 1 << k).sum();
        }

        Shadow with(Shadow other) {
            Set<Integer> all = new TreeSet<>(inputs);
            all.addAll(other.inputs);
            return new Shadow(all, exact && other.exact);
        }

        Shadow blurred() {
            return new Shadow(inputs, inputs.isEmpty());
        }
    }

    private record Value(Number number, Shadow shadow) {
        int kind() {
            return number instanceof Integer ? 0 : number instanceof Long ? 1 : number instanceof Float ? 2 : 3;
        }

        long bits() {
            switch (kind()) {
                case 2:
                    return Float.floatToIntBits(number.floatValue());
                case 3:
                    return Double.doubleToLongBits(number.doubleValue());
                default:
                    return number.longValue();
            }
        }
    }

    private record Cells(int sort, Object row, Shadow[] shadows) {
    }

    private final Value[] registers = new Value[8];
    private final Cells[] arrays = new Cells[4];
    private final List<long[]> pins = new ArrayList<>();
    private final List<long[]> ways = new ArrayList<>();
    private int exceptions = 0;

    PlainMachine() {
        for (int r = 0; r < 8; r++) {
            registers[r] = new Value(0, Shadow.EMPTY);
        }
    }

    /** Any call by its name: what the document's method of this name answers. */
    long call(String name, long[] n) {
        try {
            return answer(name, n);
        } catch (Refused refused) {
            return List.of("bits", "cell", "pin", "way").contains(name) ? ShadowMachine.NONE : ShadowMachine.REFUSED;
        } catch (ArithmeticException thrown) {
            return exception(ShadowMachine.ARITHMETIC);
        } catch (NullPointerException thrown) {
            return exception(ShadowMachine.NULL);
        } catch (IndexOutOfBoundsException thrown) {
            return exception(ShadowMachine.BOUNDS);
        } catch (NegativeArraySizeException thrown) {
            return exception(ShadowMachine.NEGATIVE);
        } catch (ArrayStoreException thrown) {
            return exception(ShadowMachine.STORE);
        }
    }

    private int exception(int number) {
        exceptions++;
        return number;
    }

    private long answer(String name, long[] n) {
        switch (name) {
            case "constant":
                return set(n[0], numberOf(range(n[1], 4), n[2]), Shadow.EMPTY);
            case "input":
                return set(n[0], numberOf(range(n[1], 4), n[2]), new Shadow(Set.of(range(n[3], 6)), true));
            case "one":
                return one(n[0], range(n[1], 8), register(n[2]));
            case "two":
                return two(n[0], range(n[1], 8), range(n[2], 8), range(n[3], 8));
            case "move":
                return set(n[0], register(n[1]).number, register(n[1]).shadow);
            case "array":
                return array(range(n[0], 4), range(n[1], 8), range(n[2], 8));
            case "drop":
                arrays[range(n[0], 4)] = null;
                return 0;
            case "share":
                arrays[range(n[0], 4)] = arrays[range(n[1], 4)];
                return 0;
            case "load":
                return load(range(n[0], 8), arrays[range(n[1], 4)], range(n[2], 8));
            case "store":
                return store(arrays[range(n[0], 4)], range(n[1], 8), register(n[2]));
            case "length":
                range(n[0], 8);
                return set(n[0], Array.getLength(arrays[range(n[1], 4)].row), Shadow.EMPTY);
            case "copy":
                return copy(arrays[range(n[0], 4)], (int) n[1], arrays[range(n[2], 4)], (int) n[3], (int) n[4]);
            case "branch":
                return branch(range(n[0], 6), register(n[1]), register(n[2]));
            default:
                return asked(name, n);
        }
    }

    private long asked(String name, long[] n) {
        switch (name) {
            case "kind":
                return register(n[0]).kind();
            case "bits":
                return register(n[0]).bits();
            case "shadow":
                return register(n[0]).shadow.told();
            case "cell":
                return cell(arrays[range(n[0], 4)], n[1], range(n[2], 3));
            case "pin":
                return note(pins, range(n[0], 16), range(n[1], 2));
            case "way":
                return note(ways, range(n[0], 16), range(n[1], 3));
            default:
                return count(range(n[0], 4));
        }
    }

    private static int range(long number, int bound) {
        refuseUnless(number >= 0 && number < bound);
        return (int) number;
    }

    private static void refuseUnless(boolean so) {
        if (!so) {
            throw new Refused();
        }
    }

    private Value register(long r) {
        return registers[range(r, 8)];
    }

    private long set(long r, Number number, Shadow shadow) {
        registers[range(r, 8)] = new Value(number, shadow);
        return 0;
    }

    private static Number numberOf(int kind, long bits) {
        switch (kind) {
            case 0:
                return (int) bits;
            case 1:
                return bits;
            case 2:
                return Float.intBitsToFloat((int) bits);
            default:
                return Double.longBitsToDouble(bits);
        }
    }

    private int intOf(Value value) {
        refuseUnless(value.number instanceof Integer);
        return value.number.intValue();
    }

    private void pinned(long operation, int r) {
        Shadow shadow = registers[r].shadow;
        if (!shadow.inputs.isEmpty()) {
            pins.add(0, new long[] {operation, shadow.set()});
            registers[r] = new Value(registers[r].number, Shadow.EMPTY);
        }
    }

    private long one(long operation, int r, Value a) {
        boolean rounds = List.of(1L, 4L, 5L, 11L).contains(operation);
        Number result = oneResult(range(operation, 19), a);
        return set(r, result, rounds ? a.shadow.blurred() : a.shadow);
    }

    private static Number oneResult(int operation, Value a) {
        if (operation < 15) {
            String conversion = CONVERSIONS[operation];
            refuseUnless(KIND_LETTERS.charAt(a.kind()) == conversion.charAt(0));
            return converted(conversion.charAt(2), a.number);
        }
        if (operation == 17) {
            refuseUnless(a.kind() > 1);
            return a.kind() == 2 ? (Number) (int) a.bits() : (Number) a.bits();
        }
        if (operation == 18) {
            refuseUnless(a.kind() < 2);
            return numberOf(a.kind() + 2, a.bits());
        }
        boolean neg = operation == 15;
        switch (a.kind()) {
            case 0:
                return neg ? -a.number.intValue() : Math.abs(a.number.intValue());
            case 1:
                return neg ? -a.number.longValue() : Math.abs(a.number.longValue());
            case 2:
                return neg ? -a.number.floatValue() : Math.abs(a.number.floatValue());
            default:
                return neg ? -a.number.doubleValue() : Math.abs(a.number.doubleValue());
        }
    }

    private static Number converted(char to, Number number) {
        switch (to) {
            case 'i':
                return number.intValue();
            case 'l':
                return number.longValue();
            case 'f':
                return number.floatValue();
            case 'd':
                return number.doubleValue();
            case 'b':
                return (int) (byte) number.intValue();
            case 'c':
                return (int) (char) number.intValue();
            default:
                return (int) (short) number.intValue();
        }
    }

    private long two(long operation, int r, int a, int b) {
        refuseUnless(operation >= 20 && operation <= 34);
        Value first = registers[a];
        Value second = registers[b];
        boolean shift = operation >= 27 && operation <= 29;
        refuseUnless(second.kind() == (shift ? 0 : first.kind()));
        Number result = twoResult((int) operation, first, second.number);
        if (first.kind() > 1 && operation <= 24) {
            pinned(operation, a);
            pinned(operation, b);
            return set(r, result, Shadow.EMPTY);
        }
        Shadow both = first.shadow.with(second.shadow);
        boolean bothDepend = !first.shadow.inputs.isEmpty() && !second.shadow.inputs.isEmpty();
        boolean blurs = List.of(22L, 23L, 24L).contains(operation) && bothDepend;
        return set(r, result, blurs ? both.blurred() : both);
    }

    private static Number twoResult(int operation, Value a, Number b) {
        switch (a.kind()) {
            case 0:
                return ofInts(operation, a.number.intValue(), b.intValue());
            case 1:
                return ofLongs(operation, a.number.longValue(), b.longValue());
            case 2:
                return ofFloats(operation, a.number.floatValue(), b.floatValue());
            default:
                return ofDoubles(operation, a.number.doubleValue(), b.doubleValue());
        }
    }

    private static Number ofInts(int operation, int a, int b) {
        switch (operation) {
            case 20: return a + b;
            case 21: return a - b;
            case 22: return a * b;
            case 23: return a / b;
            case 24: return a % b;
            case 25: return Math.min(a, b);
            case 26: return Math.max(a, b);
            case 27: return a << b;
            case 28: return a >> b;
            case 29: return a >>> b;
            case 30: return a & b;
            case 31: return a | b;
            case 32: return a ^ b;
            default: throw new Refused();
        }
    }

    private static Number ofLongs(int operation, long a, long b) {
        switch (operation) {
            case 20: return a + b;
            case 21: return a - b;
            case 22: return a * b;
            case 23: return a / b;
            case 24: return a % b;
            case 25: return Math.min(a, b);
            case 26: return Math.max(a, b);
            case 27: return a << b;
            case 28: return a >> b;
            case 29: return a >>> b;
            case 30: return a & b;
            case 31: return a | b;
            case 32: return a ^ b;
            default: return a < b ? -1 : a > b ? 1 : 0;
        }
    }

    private static Number ofFloats(int operation, float a, float b) {
        switch (operation) {
            case 20: return a + b;
            case 21: return a - b;
            case 22: return a * b;
            case 23: return a / b;
            case 24: return a % b;
            case 25: return Math.min(a, b);
            case 26: return Math.max(a, b);
            case 33: return a > b ? 1 : a == b ? 0 : -1;
            case 34: return a < b ? -1 : a == b ? 0 : 1;
            default: throw new Refused();
        }
    }

    private static Number ofDoubles(int operation, double a, double b) {
        switch (operation) {
            case 20: return a + b;
            case 21: return a - b;
            case 22: return a * b;
            case 23: return a / b;
            case 24: return a % b;
            case 25: return Math.min(a, b);
            case 26: return Math.max(a, b);
            case 33: return a > b ? 1 : a == b ? 0 : -1;
            case 34: return a < b ? -1 : a == b ? 0 : 1;
            default: throw new Refused();
        }
    }

    private long array(int h, int sort, int n) {
        int size = intOf(registers[n]);
        refuseUnless(size <= 12);
        Object row = Array.newInstance(TYPES[sort], size);
        Shadow[] shadows = new Shadow[size];
        java.util.Arrays.fill(shadows, Shadow.EMPTY);
        pinned(40, n);
        arrays[h] = new Cells(sort, row, shadows);
        return 0;
    }

    private static Number loaded(Cells cells, int index) {
        Object got = Array.get(cells.row, index);
        if (got instanceof Boolean so) {
            return so ? 1 : 0;
        }
        if (got instanceof Character sign) {
            return (int) sign;
        }
        return cells.sort < 4 ? Integer.valueOf(((Number) got).intValue()) : (Number) got;
    }

    private long load(int r, Cells cells, int i) {
        int index = intOf(registers[i]);
        Number number = loaded(cells, index);
        Shadow shadow = cells.shadows[index];
        pinned(41, i);
        return set(r, number, shadow);
    }

    private long store(Cells cells, int i, Value a) {
        int index = intOf(registers[i]);
        int kind = Math.max(cells.sort - 4, 0);
        if (a.kind() != kind) {
            throw new ArrayStoreException();
        }
        switch (cells.sort) {
            case 0:
                ((boolean[]) cells.row)[index] = a.number.intValue() % 2 != 0;
                break;
            case 1:
                ((byte[]) cells.row)[index] = a.number.byteValue();
                break;
            case 2:
                ((char[]) cells.row)[index] = (char) a.number.intValue();
                break;
            case 3:
                ((short[]) cells.row)[index] = a.number.shortValue();
                break;
            default:
                Array.set(cells.row, index, a.number);
        }
        cells.shadows[index] = cells.sort < 4 ? a.shadow.blurred() : a.shadow;
        pinned(42, i);
        return 0;
    }

    private static long copy(Cells from, int p, Cells to, int q, int n) {
        if (from == null || to == null) {
            throw new NullPointerException();
        }
        System.arraycopy(from.row, p, to.row, q, n);
        System.arraycopy(from.shadows, p, to.shadows, q, n);
        return 0;
    }

    private long branch(int test, Value a, Value b) {
        int order = Integer.compare(intOf(a), intOf(b));
        boolean[] so = {order == 0, order != 0, order < 0, order >= 0, order > 0, order <= 0};
        Shadow both = a.shadow.with(b.shadow);
        if (!both.inputs.isEmpty()) {
            ways.add(0, new long[] {so[test] ? 1 : 0, both.set(), both.exact ? 1 : 0});
        }
        return so[test] ? 1 : 0;
    }

    private static long cell(Cells cells, long i, int what) {
        refuseUnless(cells != null);
        if (what == 2) {
            return cells.sort;
        }
        int index = range(i, cells.shadows.length);
        return what == 1 ? cells.shadows[index].told() : new Value(loaded(cells, index), Shadow.EMPTY).bits();
    }

    private static long note(List<long[]> notes, int k, int what) {
        refuseUnless(k < notes.size());
        return notes.get(k)[what];
    }

    private long count(int what) {
        long[] counts = {pins.size(), ways.size(), exceptions, 0};
        for (Value value : registers) {
            counts[3] += value.shadow.inputs.isEmpty() ? 0 : 1;
        }
        return counts[what];
    }
}

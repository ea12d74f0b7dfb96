import java.util.ArrayList;
import java.util.Arrays;
import java.util.List;
import java.util.Random;

/** Runs of calls drawn from fixed seeds, each answer held against PlainMachine's; with the asking at the end 512 at most. */
public final class RandomRunsTest {
    private static final int RUNS = 12000;
    private static final int CALLS = 224;
    private static final long[] EDGES = {
        0, 1, 2, 3, 11, 12, 13, -1, -2, 31, 32, 63, 64, 127, 128, 255, 32767, 32768, 65535, Integer.MAX_VALUE, Integer.MIN_VALUE,
        Long.MAX_VALUE, Long.MIN_VALUE, 0x7F800000L, 0xFF800000L, 0x7F800001L, 0x7FC00000L, 0x00800000L, 0x7F7FFFFFL, 0x3F800000L,
        0x7FF0000000000000L, 0xFFF0000000000000L, 0x7FF0000000000001L, 0x0010000000000000L, 0x7FEFFFFFFFFFFFFFL, 0x3FF0000000000000L
    };
    private static final String[] NAMES = {
        "constant", "input", "input", "one", "one", "one", "two", "two", "two", "two", "move", "array", "drop", "share", "load", "load",
        "store", "store", "store", "length", "copy", "branch", "kind", "bits", "shadow", "cell", "pin", "way", "count"
    };

    private final Random draw;

    private RandomRunsTest(long seed) {
        draw = new Random(seed);
    }

    public static void main(String[] args) {
        for (int run = 0; run < RUNS; run++) {
            new RandomRunsTest(run).run(run);
        }
        Check.end();
    }

    private void run(int run) {
        ShadowMachine machine = new ShadowMachine();
        PlainMachine plain = new PlainMachine();
        List<String> calls = new ArrayList<>();
        for (int i = 0; i < CALLS; i++) {
            String name = NAMES[draw.nextInt(NAMES.length)];
            long[] numbers = numbersFor(name);
            calls.add(name + Arrays.toString(numbers));
            long want = plain.call(name, numbers);
            long got = asked(machine, name, numbers);
            if (got != want) {
                Check.due("run " + run + ", the last of " + calls + ",", got, want);
                return;
            }
        }
        everythingIsAlike(run, machine, plain);
    }

    private static void everythingIsAlike(int run, ShadowMachine machine, PlainMachine plain) {
        for (int r = 0; r < 8; r++) {
            for (String name : new String[] {"kind", "bits", "shadow", "count"}) {
                alike(run, machine, plain, name, r);
            }
        }
        for (int h = 0; h < 4; h++) {
            for (int i = 0; i < 12; i++) {
                for (int what = 0; what < 3; what++) {
                    alike(run, machine, plain, "cell", h, i, what);
                }
            }
        }
        for (int k = 0; k < 17; k++) {
            for (int what = 0; what < 3; what++) {
                alike(run, machine, plain, "pin", k, what);
                alike(run, machine, plain, "way", k, what);
            }
        }
    }

    private static void alike(int run, ShadowMachine machine, PlainMachine plain, String name, long... numbers) {
        String call = "run " + run + ": at its end " + name + Arrays.toString(numbers);
        Check.due(call, asked(machine, name, numbers), plain.call(name, numbers));
    }

    /** Mostly a number in its range, now and then one just beside it or far away. */
    private long below(int bound) {
        int luck = draw.nextInt(200);
        if (luck == 0) {
            return -1;
        }
        if (luck == 1) {
            return bound;
        }
        return luck == 2 ? draw.nextInt() : draw.nextInt(bound);
    }

    private long bits() {
        switch (draw.nextInt(5)) {
            case 0:
                return draw.nextLong();
            case 1:
                return EDGES[draw.nextInt(EDGES.length)];
            case 2:
                return Float.floatToIntBits(draw.nextInt(41) / 4f - 5);
            case 3:
                return Double.doubleToLongBits(draw.nextInt(41) / 4.0 - 5);
            default:
                return draw.nextInt(16) - 2;
        }
    }

    private long kind() {
        return draw.nextInt(2) == 0 ? 0 : below(4);
    }

    private long[] numbersFor(String name) {
        switch (name) {
            case "constant":
                return new long[] {below(8), kind(), bits()};
            case "input":
                return new long[] {below(8), kind(), bits(), below(6)};
            case "one":
                return new long[] {below(19), below(8), below(8)};
            case "two":
                return new long[] {20 + below(15), below(8), below(8), below(8)};
            case "array":
                return new long[] {below(4), below(8), below(8)};
            case "share":
                return new long[] {below(4), below(4)};
            case "load":
                return new long[] {below(8), below(4), below(8)};
            case "store":
                return new long[] {below(4), below(8), below(8)};
            case "length":
                return new long[] {below(8), below(4)};
            case "copy":
                return new long[] {below(4), below(5), below(4), below(5), below(5)};
            case "branch":
                return new long[] {below(6), below(8), below(8)};
            case "drop":
                return new long[] {below(40)};
            case "cell":
                return new long[] {below(4), below(12), below(3)};
            case "pin":
                return new long[] {below(17), below(2)};
            case "way":
                return new long[] {below(17), below(3)};
            case "count":
                return new long[] {below(4)};
            default:
                return new long[] {below(8), below(8)};
        }
    }

    private static long asked(ShadowMachine x, String name, long[] n) {
        int a = (int) n[0];
        int b = n.length > 1 ? (int) n[1] : 0;
        int c = n.length > 2 ? (int) n[2] : 0;
        int d = n.length > 3 ? (int) n[3] : 0;
        switch (name) {
            case "constant": return x.constant(a, b, n[2]);
            case "input": return x.input(a, b, n[2], d);
            case "one": return x.one(a, b, c);
            case "two": return x.two(a, b, c, d);
            case "move": return x.move(a, b);
            case "array": return x.array(a, b, c);
            case "drop": return x.drop(a);
            case "share": return x.share(a, b);
            case "load": return x.load(a, b, c);
            case "store": return x.store(a, b, c);
            case "length": return x.length(a, b);
            case "copy": return x.copy(a, b, c, d, (int) n[4]);
            case "branch": return x.branch(a, b, c);
            case "kind": return x.kind(a);
            case "bits": return x.bits(a);
            case "shadow": return x.shadow(a);
            case "cell": return x.cell(a, b, c);
            case "pin": return x.pin(a, b);
            case "way": return x.way(a, b);
            default: return x.count(a);
        }
    }
}

/** Counts and prints the answers of a test that are not as due. */
final class Check {
    private static int wrong = 0;
    private static int asked = 0;
    private static String mark = "";

    private Check() {
    }

    /** What is asked from here on is told with these words before it. */
    static void begin(String newMark) {
        mark = newMark;
    }

    static int asked() {
        return asked;
    }

    static void due(String call, long got, long want) {
        asked++;
        if (got != want) {
            wrong++;
            System.out.println(mark + call + " answered " + got + ", due is " + want);
        }
    }

    static void holds(String what, boolean so) {
        due(what, so ? 1 : 0, 1);
    }

    /** A REGISTER whole: its KIND, BITS and SHADOW. */
    static void register(ShadowMachine x, int r, int kind, long bits, int shadow) {
        due("kind(" + r + ")", x.kind(r), kind);
        due("bits(" + r + ")", x.bits(r), bits);
        due("shadow(" + r + ")", x.shadow(r), shadow);
    }

    /** A cell whole: its BITS and SHADOW. */
    static void cell(ShadowMachine x, int h, int i, long bits, int shadow) {
        due("cell(" + h + ", " + i + ", 0)", x.cell(h, i, 0), bits);
        due("cell(" + h + ", " + i + ", 1)", x.cell(h, i, 1), shadow);
    }

    static void pin(ShadowMachine x, int k, int operation, int set) {
        due("pin(" + k + ", 0)", x.pin(k, 0), operation);
        due("pin(" + k + ", 1)", x.pin(k, 1), set);
    }

    static void way(ShadowMachine x, int k, int so, int set, int exact) {
        due("way(" + k + ", 0)", x.way(k, 0), so);
        due("way(" + k + ", 1)", x.way(k, 1), set);
        due("way(" + k + ", 2)", x.way(k, 2), exact);
    }

    static void counts(ShadowMachine x, int pins, int ways, int exceptions, int dependent) {
        due("count(0)", x.count(0), pins);
        due("count(1)", x.count(1), ways);
        due("count(2)", x.count(2), exceptions);
        due("count(3)", x.count(3), dependent);
    }

    /** All that can be asked of an object, as a text: to see that a call changed nothing. */
    static String state(ShadowMachine x) {
        return stateWithoutExceptions(x) + x.count(2);
    }

    static String stateWithoutExceptions(ShadowMachine x) {
        StringBuilder all = new StringBuilder();
        for (int r = 0; r < 8; r++) {
            all.append(x.kind(r)).append(' ').append(x.bits(r)).append(' ').append(x.shadow(r)).append('\n');
        }
        for (int h = 0; h < 4; h++) {
            all.append(x.cell(h, 0, 2));
            for (int i = 0; i < 12; i++) {
                all.append(' ').append(x.cell(h, i, 0)).append(' ').append(x.cell(h, i, 1));
            }
            all.append('\n');
        }
        for (int k = 0; k < 16; k++) {
            all.append(x.pin(k, 0)).append(' ').append(x.pin(k, 1)).append(' ');
            all.append(x.way(k, 0)).append(' ').append(x.way(k, 1)).append(' ').append(x.way(k, 2)).append('\n');
        }
        for (int what : new int[] {0, 1, 3}) {
            all.append(x.count(what)).append(' ');
        }
        return all.toString();
    }

    static void end() {
        System.out.println(asked + " answers asked, " + wrong + " not as due");
        if (wrong != 0 || asked == 0) {
            System.exit(1);
        }
    }
}

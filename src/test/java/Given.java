/** Objects in a state that several boundary tests begin with. */
final class Given {
    /** An ARRAY of busy() that is null. */
    static final int NULL_ARRAY = 3;

    private Given() {
    }

    /** REGISTERS from 0 on are constants of a KIND. */
    static ShadowMachine constants(int kind, long... bits) {
        ShadowMachine x = new ShadowMachine();
        for (int r = 0; r < bits.length; r++) {
            x.constant(r, kind, bits[r]);
        }
        return x;
    }

    /** REGISTERS from 0 on are of a KIND, each the INPUT of its own number. */
    static ShadowMachine inputs(int kind, long... bits) {
        ShadowMachine x = new ShadowMachine();
        for (int r = 0; r < bits.length; r++) {
            x.input(r, kind, bits[r], r);
        }
        return x;
    }

    /** ARRAY 0 is of a SORT, with cells of 0; the REGISTERS are INT 0. */
    static ShadowMachine array(int sort, int size) {
        ShadowMachine x = new ShadowMachine();
        x.constant(0, Codes.INT, size);
        x.array(0, sort, 0);
        x.constant(0, Codes.INT, 0);
        return x;
    }

    /**
     * REGISTERS: 0 INT 1, 1 LONG 5, 2 FLOAT 1.5, 3 DOUBLE 2.5, each the INPUT of its number; 4 INT 2 (INPUT 4); 5 INT 2 (INPUTS
     * 0 and 4, not EXACT); 6 INT 0 and 7 INT 1 with no INPUT. ARRAYS: 0 int, 1 byte, 2 the same as 1, of three cells, 3 null.
     * One PIN, two WAYS and one EXCEPTION are noted.
     */
    static ShadowMachine busy() {
        ShadowMachine x = new ShadowMachine();
        x.constant(7, Codes.INT, 3);
        x.array(0, 4, 7);
        x.array(1, 1, 7);
        x.share(2, 1);
        x.input(0, Codes.INT, 1, 0);
        x.input(1, Codes.LONG, 5, 1);
        x.input(2, Codes.FLOAT, Codes.bitsOf(1.5f), 2);
        x.input(3, Codes.DOUBLE, Codes.bitsOf(2.5), 3);
        x.input(4, Codes.INT, 2, 4);
        x.two(Codes.MUL, 5, 0, 4);
        x.store(0, 6, 0);
        x.store(1, 6, 4);
        x.input(7, Codes.INT, 1, 5);
        x.load(6, 0, 7);
        x.branch(2, 0, 4);
        x.branch(0, 5, 4);
        x.length(6, NULL_ARRAY);
        return x;
    }

    /** busy() with a number in REGISTER 0 that is INPUT 2: an INDEX or a size. */
    static ShadowMachine busyWith(long number) {
        ShadowMachine x = busy();
        x.input(0, Codes.INT, number, 2);
        return x;
    }
}

/** kind, bits and shadow: promises 15, 16 and 17. */
public final class Promise15To17AskingTest {
    public static void main(String[] args) {
        ShadowMachine x = new ShadowMachine();
        for (int kind = 0; kind < 4; kind++) {
            x.constant(kind, kind, 7 + kind);
            x.input(7 - kind, kind, -7 - kind, kind);
        }
        for (int kind = 0; kind < 4; kind++) {
            Check.register(x, kind, kind, 7 + kind, 64);
            boolean nan = kind > 1;
            long nanBits = kind == Codes.FLOAT ? 0x7FC00000L : 0x7FF8000000000000L;
            Check.register(x, 7 - kind, kind, nan ? nanBits : -7 - kind, 64 + (1 << kind));
        }
        x.constant(0, Codes.LONG, ShadowMachine.NONE);
        Check.due("bits that look like NONE", x.bits(0), ShadowMachine.NONE);
        everySet();
        String before = Check.state(x);
        for (int r : Codes.BELOW_AND_ABOVE_REGISTERS) {
            Check.due("kind of a wrong r", x.kind(r), ShadowMachine.REFUSED);
            Check.due("bits of a wrong r", x.bits(r), ShadowMachine.NONE);
            Check.due("shadow of a wrong r", x.shadow(r), ShadowMachine.REFUSED);
        }
        Check.holds("asking changes nothing", before.equals(Check.state(x)));
        Check.end();
    }

    private static void everySet() {
        for (int set = 0; set < 64; set++) {
            ShadowMachine x = new ShadowMachine();
            for (int k = 0; k < 6; k++) {
                if ((set >> k & 1) == 1) {
                    x.input(1, Codes.INT, 1, k);
                    x.two(Codes.OR, 0, 0, 1);
                }
            }
            Check.due("shadow of the set " + set, x.shadow(0), 64 + set);
            x.two(Codes.MUL, 0, 0, 0);
            Check.due("shadow of the set " + set + ", inexact", x.shadow(0), set == 0 ? 64 : set);
        }
    }
}

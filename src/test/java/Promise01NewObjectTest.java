public final class Promise01NewObjectTest {
    public static void main(String[] args) {
        ShadowMachine x = new ShadowMachine();
        for (int r = 0; r < 8; r++) {
            Check.register(x, r, Codes.INT, 0, 64);
        }
        for (int h = 0; h < 4; h++) {
            Check.due("cell(h, 0, 2)", x.cell(h, 0, 2), ShadowMachine.NONE);
        }
        Check.due("pin(0, 0)", x.pin(0, 0), ShadowMachine.NONE);
        Check.due("way(0, 0)", x.way(0, 0), ShadowMachine.NONE);
        Check.counts(x, 0, 0, 0, 0);
        objectsAreApart();
        Check.end();
    }

    private static void objectsAreApart() {
        ShadowMachine x = new ShadowMachine();
        ShadowMachine y = new ShadowMachine();
        String before = Check.state(y);
        x.constant(1, Codes.INT, 3);
        x.array(0, 4, 1);
        x.input(0, Codes.INT, 1, 0);
        x.branch(0, 0, 0);
        x.store(0, 0, 0);
        x.load(2, 3, 1);
        Check.holds("what one object does is not seen in another", before.equals(Check.state(y)));
    }
}

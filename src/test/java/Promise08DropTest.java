public final class Promise08DropTest {
    public static void main(String[] args) {
        ShadowMachine x = new ShadowMachine();
        x.constant(0, Codes.INT, 2);
        for (int h = 0; h < 4; h++) {
            x.array(h, h, 0);
        }
        for (int h = 0; h < 4; h++) {
            Check.due("drop", x.drop(h), ShadowMachine.OK);
            Check.due("the SORT", x.cell(h, 0, 2), ShadowMachine.NONE);
            Check.due("length", x.length(1, h), ShadowMachine.NULL);
            Check.due("drop again", x.drop(h), ShadowMachine.OK);
        }
        sharedOneStays();
        String before = Check.state(x);
        for (int h : Codes.BELOW_AND_ABOVE_ARRAYS) {
            Check.due("drop of a wrong h", x.drop(h), ShadowMachine.REFUSED);
        }
        Check.holds("a refused drop changes nothing", before.equals(Check.state(x)));
        Check.end();
    }

    private static void sharedOneStays() {
        ShadowMachine x = new ShadowMachine();
        x.constant(0, Codes.INT, 1);
        x.constant(1, Codes.INT, 0);
        x.array(2, 4, 0);
        x.share(3, 2);
        x.store(3, 1, 0);
        x.drop(2);
        Check.cell(x, 3, 0, 1, 64);
        x.array(2, 4, 0);
        Check.cell(x, 2, 0, 0, 64);
        Check.cell(x, 3, 0, 1, 64);
    }
}

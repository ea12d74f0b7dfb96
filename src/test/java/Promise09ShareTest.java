public final class Promise09ShareTest {
    public static void main(String[] args) {
        ShadowMachine x = new ShadowMachine();
        x.constant(0, Codes.INT, 3);
        x.array(0, 4, 0);
        Check.due("share(2, 0)", x.share(2, 0), ShadowMachine.OK);
        x.input(1, Codes.INT, 44, 5);
        x.constant(2, Codes.INT, 1);
        x.store(2, 2, 1);
        Check.cell(x, 0, 1, 44, 96);
        x.store(0, 2, 0);
        Check.cell(x, 2, 1, 3, 64);
        Check.due("share(0, 0)", x.share(0, 0), ShadowMachine.OK);
        Check.cell(x, 0, 1, 3, 64);
        Check.due("share with null", x.share(2, 3), ShadowMachine.OK);
        Check.due("the SORT", x.cell(2, 0, 2), ShadowMachine.NONE);
        Check.due("share of null with null", x.share(1, 3), ShadowMachine.OK);
        Check.counts(x, 0, 0, 0, 1);
        allFourApartAgain();
        String before = Check.state(x);
        for (int wrong : Codes.BELOW_AND_ABOVE_ARRAYS) {
            Check.due("share of a wrong h", x.share(wrong, 0), ShadowMachine.REFUSED);
            Check.due("share of a wrong g", x.share(0, wrong), ShadowMachine.REFUSED);
        }
        Check.holds("a refused share changes nothing", before.equals(Check.state(x)));
        Check.end();
    }

    /** New ARRAYS in the place of shared ones are never one of those that are still held. */
    private static void allFourApartAgain() {
        for (int order = 0; order < 24; order++) {
            ShadowMachine x = new ShadowMachine();
            x.constant(0, Codes.INT, 1);
            x.constant(1, Codes.INT, 0);
            int first = order % 4;
            x.array(first, 4, 0);
            for (int h = 0; h < 4; h++) {
                x.share(h, first);
            }
            for (int turn = 0; turn < 8; turn++) {
                int h = (turn * (order / 4 + 1) + first) % 4;
                x.array(h, 4, 0);
                x.constant(2, Codes.INT, 10 + turn);
                x.store(h, 1, 2);
            }
            for (int h = 0; h < 4; h++) {
                x.array(h, 4, 0);
                x.constant(2, Codes.INT, 100 + h);
                x.store(h, 1, 2);
            }
            for (int h = 0; h < 4; h++) {
                Check.cell(x, h, 0, 100 + h, 64);
            }
        }
    }
}

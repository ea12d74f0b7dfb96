public final class Promise18CellTest {
    public static void main(String[] args) {
        ShadowMachine x = new ShadowMachine();
        x.constant(0, Codes.INT, 3);
        x.array(0, 1, 0);
        x.constant(1, Codes.INT, 2);
        x.input(2, Codes.INT, 200, 4);
        x.store(0, 1, 2);
        Check.due("cell(0, 2, 0)", x.cell(0, 2, 0), -56);
        Check.due("cell(0, 2, 1)", x.cell(0, 2, 1), 16);
        Check.due("cell(0, 1, 1)", x.cell(0, 1, 1), 64);
        x.input(1, Codes.INT, 2, 0);
        Check.due("asking pins nothing", x.count(0), 0);
        for (int i : new int[] {0, 2, 3, -1, 12, Integer.MIN_VALUE, Integer.MAX_VALUE}) {
            Check.due("the SORT, i any int", x.cell(0, i, 2), 1);
        }
        x.constant(0, Codes.INT, 0);
        x.array(1, 7, 0);
        Check.due("the SORT of no cells", x.cell(1, 0, 2), 7);
        Check.due("a cell of no cells", x.cell(1, 0, 0), ShadowMachine.NONE);
        none(x);
        Check.end();
    }

    private static void none(ShadowMachine x) {
        String before = Check.state(x);
        for (int what = 0; what < 3; what++) {
            Check.due("cell of null", x.cell(2, 0, what), ShadowMachine.NONE);
            for (int h : Codes.BELOW_AND_ABOVE_ARRAYS) {
                Check.due("cell of a wrong h", x.cell(h, 0, what), ShadowMachine.NONE);
            }
        }
        for (int what = 0; what < 2; what++) {
            for (int i : new int[] {-1, 3, 11, 12, Integer.MIN_VALUE, Integer.MAX_VALUE}) {
                Check.due("cell of a wrong i", x.cell(0, i, what), ShadowMachine.NONE);
            }
        }
        for (int what : new int[] {-1, 3, Integer.MIN_VALUE, Integer.MAX_VALUE}) {
            Check.due("cell of a wrong what", x.cell(0, 0, what), ShadowMachine.NONE);
            Check.due("cell of null and a wrong what", x.cell(2, 0, what), ShadowMachine.NONE);
        }
        Check.holds("asking changes nothing", before.equals(Check.state(x)));
    }
}

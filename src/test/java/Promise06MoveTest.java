public final class Promise06MoveTest {
    public static void main(String[] args) {
        ShadowMachine x = new ShadowMachine();
        x.input(0, Codes.DOUBLE, Codes.bitsOf(-2.25), 4);
        Check.due("move(7, 0)", x.move(7, 0), ShadowMachine.OK);
        Check.register(x, 7, Codes.DOUBLE, Codes.bitsOf(-2.25), 80);
        Check.register(x, 0, Codes.DOUBLE, Codes.bitsOf(-2.25), 80);
        x.one(Codes.D2F, 1, 0);
        x.move(2, 1);
        Check.register(x, 2, Codes.FLOAT, Codes.bitsOf(-2.25f), 16);
        x.move(2, 5);
        Check.register(x, 2, Codes.INT, 0, 64);
        Check.due("move(0, 0)", x.move(0, 0), ShadowMachine.OK);
        Check.register(x, 0, Codes.DOUBLE, Codes.bitsOf(-2.25), 80);
        copyIsApart(x);
        String before = Check.state(x);
        for (int wrong : Codes.BELOW_AND_ABOVE_REGISTERS) {
            Check.due("move of a wrong r", x.move(wrong, 0), ShadowMachine.REFUSED);
            Check.due("move of a wrong a", x.move(0, wrong), ShadowMachine.REFUSED);
        }
        Check.holds("a refused move changes nothing", before.equals(Check.state(x)));
        Check.end();
    }

    private static void copyIsApart(ShadowMachine x) {
        x.input(3, Codes.FLOAT, Codes.bitsOf(1f), 1);
        x.move(4, 3);
        x.two(Codes.ADD, 5, 3, 3);
        Check.due("shadow of the pinned one", x.shadow(3), 64);
        Check.due("shadow of its copy", x.shadow(4), 66);
    }
}

/** The heading "What it is": how long an object is used. */
public final class BoundaryUseTest {
    private static final String AT = "What it is";
    private static final String AT_MOST = "An object is used for at most 512 calls after it has been made;";

    public static void main(String[] args) {
        Boundary.run(BoundaryUseTest.class);
    }

    @Sentence(at = AT, says = AT_MOST)
    static void pinsUpToTheLastCall() {
        ShadowMachine x = new ShadowMachine();
        for (int n = 0; n < 255; n++) {
            x.input(0, Codes.FLOAT, 0, n % 6);
            x.two(Codes.ADD, 1, 0, 0);
        }
        Check.due("call 511, pin(15, 1)", x.pin(15, 1), 1 << 239 % 6);
        Check.due("call 512, count(0)", x.count(0), 255);
    }

    @Sentence(at = AT, says = AT_MOST)
    static void waysUpToTheLastCall() {
        ShadowMachine x = new ShadowMachine();
        x.input(0, Codes.INT, 1, 2);
        for (int n = 0; n < 509; n++) {
            x.branch(n % 2, 0, 0);
        }
        Check.due("call 511, way(15, 0)", x.way(15, 0), 0);
        Check.due("call 512, count(1)", x.count(1), 509);
    }

    @Sentence(at = AT, says = AT_MOST)
    static void exceptionsUpToTheLastCall() {
        ShadowMachine x = new ShadowMachine();
        for (int n = 0; n < 511; n++) {
            Check.due("length of null", x.length(0, 0), ShadowMachine.NULL);
        }
        Check.due("call 512, count(2)", x.count(2), 511);
    }

    @Sentence(at = AT, says = AT_MOST)
    static void fullArraysUpToTheLastCall() {
        ShadowMachine x = new ShadowMachine();
        x.constant(0, Codes.INT, 12);
        for (int n = 0; n < 510; n++) {
            Check.due("array", x.array(n % 4, n % 8, 0), ShadowMachine.OK);
        }
        Check.due("call 512, cell(1, 11, 2)", x.cell(509 % 4, 11, 2), 509 % 8);
    }

    /** LANGUAGE.md, rule 7: no call may ever throw or fail to end. */
    @Sentence(at = AT, says = "what later calls answer is free.")
    static void laterCallsEndAndThrowNothing() {
        ShadowMachine x = Given.busy();
        for (int n = 0; n < 5000; n++) {
            x.input(n % 8, n % 4, n * 0x123456789ABCDEFL, n % 6);
            x.two(20 + n % 15, n % 7, n % 5, n % 3);
            x.array(n % 4, n % 8, n % 6);
            x.store(n % 3, n % 5, n % 8);
            x.load(n % 8, n % 4, n % 7);
            x.branch(n % 6, n % 8, n % 5);
            x.pin(n % 18, n % 2);
            x.way(n % 18, n % 3);
        }
        Check.holds("all 40000 calls ended", true);
    }
}

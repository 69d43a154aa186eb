/** The four examples of the document, each call with the answer that is given behind it. */
public final class ExamplesTest {
    private static final String[] EXAMPLES = {
        "write(97) = 1; write(40) = 2; write(49) = 3; write(41) = 4; write(46) = 5; consult() = 1; listing(0, 0) = 97;"
            + " clause(0, 4) = 2; undo() = 0; told(0) = 0; undo() = -2; run(1) = -2; goal(-1) = -1; fault(2) = -1",
        "write(115) = 1; write(97) = 2; write(109) = 3; write(101) = 4; write(40) = 5; write(88) = 6; write(44) = 7;"
            + " write(49) = 8; write(41) = 9; write(46) = 10; ask() = 1; run(1) = 2; variable(0, 2) = 1; run(1) = 3;"
            + " variable(0, 2) = -9",
        "write(105) = 1; write(115) = 2; write(40) = 3; write(88) = 4; write(44) = 5; write(97) = 6; write(41) = 7;"
            + " write(46) = 8; ask() = 1; run(1) = 4; state(10) = 2; state(1) = 1; state(3) = 0",
        "write(112) = 1; write(58) = 2; write(45) = 3; write(112) = 4; write(46) = 5; consult() = 1; fault(1) = 1;"
            + " wipe() = 5; write(112) = 1; write(46) = 2; ask() = 1; run(300) = 4; run(1) = -2; state(10) = 3",
    };

    public static void main(String[] args) throws Exception {
        for (int e = 0; e < EXAMPLES.length; e++) {
            Checks c = new Checks("example " + (e + 1));
            for (String row : EXAMPLES[e].split("; *")) {
                String[] sides = row.split(" = ");
                c.due(sides[0], c.call(sides[0]), Long.parseLong(sides[1]));
            }
        }
        Checks.finish("ExamplesTest");
    }
}

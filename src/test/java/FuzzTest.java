import java.util.Random;

/** Compares LogicMachine with the Oracle, call by call, over many random runs of at most 512 calls. */
public final class FuzzTest {
    private static final String[] LEAVES = {"a", "b", "c", "[]", "0", "1", "2", "3", "X", "Y", "Z", "W", "X", "Y", "X"};
    private static final String[] NAMES = {"p", "q", "r", "f", "g", "add", "sub", "mul", "p", "q", "f", "call", "not", "cut", "true"};
    private static final String[] PLAIN = {"true", "fail", "cut", "p", "q", "r", "p", "q", "cut"};
    private static final String[] SIGNS = {".", ",", "(", ")", "[", "]", "|", ":-", " ", "abcdefg", "1234567", "ABCDE", ":", "-",
        "_", "true", "cut(", "A1", "B1", "C1", "D1", "E1", "F1", "G1", "H1", "is(", "x1Y2z3", "p", "000012"};
    private static final String[] KNOWN = {
        "app([],L,L).app([H|T],L,[H|R]):-app(T,L,R).",
        "mem(X,[X|T]).mem(X,[Y|T]):-mem(X,T).",
        "len([],0).len([H|T],N):-len(T,M),is(N,add(M,1)).",
        "s([],[]).s([H|T],R):-s(T,U),ins(H,U,R).ins(H,[],[H]).ins(H,[A|T],[H,A|T]):-less(H,A),cut.ins(H,[A|T],[A|R]):-ins(H,T,R).",
        "e(a,b).e(b,c).e(c,a).e(b,d).w(X,X,[X]).w(X,Y,[X|P]):-e(X,Z),w(Z,Y,P).",
        "n(0).n(N):-n(M),is(N,add(M,1)).",
        "o(X):-not(p(X)),cut.o(X):-call(q(X)).p(1).p(2).q(3).q(4).",
        "m(X,Y,X):-less(Y,X),cut.m(X,Y,Y).",
        "d(X):-not(not(p(X))),p(X).p(f(A,B,A)).p([A|B]).p(c).",
        "g(X):-call(h(X)),call(cut),h(Y),not(same(X,Y)).h(1).h(2).h(3).",
        "t(X,f(X,X)).t(X,Y):-t(f(X,X),Z),t(Z,Y).",
        "v(N,X):-is(M,mul(N,N)),v(M,f(X,N)).",
        "c(X,Y):-p(X),cut,p(Y).c(9,9).p(1).p(2).p(3).",
        "z(N,A):-less(N,9),is(M,add(N,1)),z(M,[N|A]).z(N,A):-same(A,[X|Y]),z(9,Y).",
    };
    private static final String[] ASKED = {"app(X,Y,[1,2,3]).", "mem(X,[1,2,3]),less(1,X).", "len([a,b,c],N).", "s([3,1,2],X).",
        "w(a,d,P).", "n(X),less(4,X).", "o(X),o(Y).", "m(3,2,X).", "d(X),d(Y),same(X,Y).", "g(X),g(Y).", "t(X,Y).", "v(3,X).",
        "c(X,Y),c(Y,Z).", "z(0,[])."};

    private final Random random;
    private final LogicMachine machine = new LogicMachine();
    private final Oracle oracle = new Oracle();
    private final StringBuilder log = new StringBuilder();
    private int known;
    private long compared;

    /** Of all threads together. */
    private static long allCompared;
    private static int large;
    private static int wrong;

    private FuzzTest(long seed) {
        // Neighbouring seeds begin alike, so they are spread first.
        random = new Random(seed * 0x9E3779B97F4A7C15L);
    }

    private static final class Wrong extends RuntimeException {
        private static final long serialVersionUID = 1;

        Wrong(String message) {
            super(message);
        }
    }

    /** Compares the answers of a call that only shows something. */
    private void due(String call, int got, int want) {
        compared++;
        if (got != want) throw new Wrong(call + " answered " + got + ", due is " + want + "\n  after: " + log);
    }

    /** Compares the answers of a call that changes something. */
    private void done(String call, int got, int want) {
        log.append(call).append(" = ").append(want).append("; ");
        due(call, got, want);
    }

    private String pick(String[] from) {
        return from[random.nextInt(from.length)];
    }

    private String term(int depth) {
        int r = random.nextInt(10);
        if (depth <= 0 || r < 5) return pick(LEAVES);
        if (r < 7) {
            StringBuilder s = new StringBuilder("[").append(term(depth - 1));
            for (int i = random.nextInt(3); i > 0; i--) s.append(',').append(term(depth - 1));
            if (random.nextInt(2) == 0) s.append('|').append(term(depth - 1));
            return s.append(']').toString();
        }
        return compound(pick(NAMES), 1 + random.nextInt(3), depth);
    }

    private String compound(String name, int arity, int depth) {
        StringBuilder s = new StringBuilder(name).append('(');
        for (int i = 0; i < arity; i++) s.append(i == 0 ? "" : ",").append(term(depth - 1));
        return s.append(')').toString();
    }

    private String goal(int depth) {
        switch (random.nextInt(12)) {
            case 0:
            case 1:
                return pick(PLAIN);
            case 2:
                return "not(" + (depth > 0 ? goal(depth - 1) : "p(X)") + ")";
            case 3:
                return "call(" + (depth > 0 ? goal(depth - 1) : "q(X)") + ")";
            case 4:
                return compound("same", 2, 2);
            case 5:
                return random.nextInt(2) == 0 ? compound("is", 2, 2) : "is(" + pick(LEAVES) + ",add(" + term(1) + ",1))";
            case 6:
                return compound("less", 2, 1);
            case 7:
                return compound(pick(new String[] {"call", "not"}), 1, 1);
            default:
                return compound(pick(new String[] {"p", "q", "r"}), 1 + random.nextInt(2), 2);
        }
    }

    private String goals() {
        StringBuilder s = new StringBuilder(goal(2));
        for (int i = random.nextInt(4); i > 0; i--) s.append(',').append(goal(2));
        return s.toString();
    }

    private String clauses() {
        StringBuilder s = new StringBuilder();
        for (int i = 1 + random.nextInt(5); i > 0; i--) {
            String head = random.nextInt(8) == 0 ? pick(new String[] {"p", "q", "r"})
                    : compound(pick(new String[] {"p", "q", "r"}), 1 + random.nextInt(2), 2);
            String clause = head + (random.nextInt(3) == 0 ? ":-" + goals() : "") + ".";
            if (s.length() + clause.length() <= 120) s.append(clause);
        }
        return s.toString();
    }

    private String spoil(String text) {
        StringBuilder s = new StringBuilder(text);
        for (int i = 1 + random.nextInt(2); i > 0; i--) {
            int at = random.nextInt(s.length() + 1);
            if (random.nextInt(2) == 0) s.insert(at, random.nextInt(3) == 0 ? "" + (char) (32 + random.nextInt(95)) : pick(SIGNS));
            else if (at < s.length()) s.deleteCharAt(at);
        }
        if (random.nextInt(4) == 0) s.setLength(random.nextInt(s.length() + 1));
        return s.toString();
    }

    private void type(String text) {
        due("wipe()", machine.wipe(), oracle.wipe());
        for (char c : text.toCharArray()) due("write(" + (int) c + ")", machine.write(c), oracle.write(c));
        log.append('"').append(text).append("\" ");
    }

    private void compareProgram() {
        for (int w = -1; w <= 5; w++) due("told(" + w + ")", machine.told(w), oracle.told(w));
        int n = oracle.told(0);
        for (int c = -1; c <= n; c++) {
            for (int w = -1; w <= 8; w++) due("clause(" + c + "," + w + ")", machine.clause(c, w), oracle.clause(c, w));
            due("overlaps(" + c + ")", machine.overlaps(c), oracle.overlaps(c));
            for (int d = -1; d <= n; d++) due("reaches(" + c + "," + d + ")", machine.reaches(c, d), oracle.reaches(c, d));
            for (int k = -1; k <= 121; k++) due("listing(" + c + "," + k + ")", machine.listing(c, k), oracle.listing(c, k));
        }
    }

    private void compareQuery() {
        for (int w = -1; w <= 13; w++) due("state(" + w + ")", machine.state(w), oracle.state(w));
        for (int v = -1; v <= 8; v++) {
            for (int w = -1; w <= 4; w++) due("variable(" + v + "," + w + ")", machine.variable(v, w), oracle.variable(v, w));
            for (int k = -1; k <= 121; k += k < 8 ? 1 : 1 + random.nextInt(9))
                due("value(" + v + "," + k + ")", machine.value(v, k), oracle.value(v, k));
        }
        for (int k = -1; k <= 121; k++) due("goal(" + k + ")", machine.goal(k), oracle.goal(k));
        int frames = oracle.state(3), choices = oracle.state(6);
        for (int f = -1; f <= frames; f += frames < 20 ? 1 : 1 + random.nextInt(20))
            for (int w = -1; w <= 3; w++) due("frame(" + f + "," + w + ")", machine.frame(f, w), oracle.frame(f, w));
        for (int p = -1; p <= choices; p += choices < 20 ? 1 : 1 + random.nextInt(20))
            for (int w = -1; w <= 4; w++) due("choice(" + p + "," + w + ")", machine.choice(p, w), oracle.choice(p, w));
    }

    private void compareFaults() {
        for (int h = -1; h <= 2; h++) due("fault(" + h + ")", machine.fault(h), oracle.fault(h));
    }

    private void change() {
        int n = oracle.told(0) + 1;
        switch (random.nextInt(5)) {
            case 0:
                int c = random.nextInt(n + 1) - 1;
                done("retract(" + c + ")", machine.retract(c), oracle.retract(c));
                break;
            case 1:
                int from = random.nextInt(n + 1) - 1, to = random.nextInt(n + 1) - 1;
                done("move(" + from + "," + to + ")", machine.move(from, to), oracle.move(from, to));
                break;
            case 2:
                done("undo()", machine.undo(), oracle.undo());
                break;
            default:
                known = random.nextInt(KNOWN.length);
                String text = random.nextInt(3) != 0 ? KNOWN[known] : clauses();
                type(random.nextInt(4) == 0 ? spoil(text) : text);
                compareFaults();
                done("consult()", machine.consult(), oracle.consult());
        }
        compareProgram();
    }

    private void query() {
        int kind = random.nextInt(6);
        String text = kind < 2 ? ASKED[known] : kind == 2 ? pick(ASKED) : goals() + ".";
        type(random.nextInt(5) == 0 ? spoil(text) : text);
        compareFaults();
        done("ask()", machine.ask(), oracle.ask());
        compareQuery();
        for (int i = random.nextInt(12); i > 0; i--) {
            int n = random.nextInt(4) == 0 ? random.nextInt(303) - 1 : 1 + random.nextInt(4);
            done("run(" + n + ")", machine.run(n), oracle.run(n));
            compareQuery();
        }
        for (int c = 0; c < oracle.told(0); c++)
            for (int w = 6; w <= 7; w++) due("clause(" + c + "," + w + ")", machine.clause(c, w), oracle.clause(c, w));
        if (random.nextInt(6) == 0) done("stop()", machine.stop(), oracle.stop());
        compareQuery();
    }

    private void runAll() {
        if (random.nextInt(2) == 0) {
            known = random.nextInt(KNOWN.length);
            type(KNOWN[known]);
            done("consult()", machine.consult(), oracle.consult());
            type(ASKED[known]);
            done("ask()", machine.ask(), oracle.ask());
            for (int i = 0; i < 30; i++) {
                int n = 1 + random.nextInt(i < 20 ? 3 : 300);
                done("run(" + n + ")", machine.run(n), oracle.run(n));
                compareQuery();
            }
        }
        for (int i = 0; i < 6; i++) {
            change();
            query();
            if (random.nextInt(2) == 0) query();
        }
    }

    /** What has come of one run; the threads tell it one after the other. */
    private static synchronized void count(FuzzTest test, boolean isLarge, String fault) {
        allCompared += test.compared;
        large += isLarge ? 1 : 0;
        if (fault != null) {
            wrong++;
            System.out.println(fault);
        }
    }

    private static synchronized boolean goesOn() {
        return wrong < 3;
    }

    private static void runSeed(long seed) {
        FuzzTest test = new FuzzTest(seed);
        boolean isLarge = false;
        String fault = null;
        try {
            test.runAll();
        } catch (Oracle.TooLarge e) {
            isLarge = true;
        } catch (Wrong e) {
            fault = "seed " + seed + ": " + e.getMessage();
        } catch (RuntimeException e) {
            fault = "seed " + seed + ": " + e + " after: " + test.log;
            e.printStackTrace(System.out);
        }
        count(test, isLarge, fault);
    }

    public static void main(String[] args) throws Exception {
        long first = args.length > 0 ? Long.parseLong(args[0]) : 1;
        long count = args.length > 1 ? Long.parseLong(args[1]) : 3000;
        Thread[] threads = new Thread[Math.max(1, Math.min(4, Runtime.getRuntime().availableProcessors()))];
        for (int t = 0; t < threads.length; t++) {
            long start = first + t;
            // The Oracle searches recursively, so it needs a deep stack.
            threads[t] = new Thread(null, () -> {
                for (long seed = start; seed < first + count && goesOn(); seed += threads.length) {
                    runSeed(seed);
                }
            }, "fuzz " + t, 1L << 29);
            threads[t].start();
        }
        for (Thread thread : threads) {
            thread.join();
        }
        System.out.println("FuzzTest: " + allCompared + " answers compared, " + large + " runs left because of large terms");
        if (wrong != 0) System.exit(1);
    }
}

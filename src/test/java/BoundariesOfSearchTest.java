/** The boundary cases of EXECUTION, which run shows. */
public final class BoundariesOfSearchTest {
    private static final int STATE = Sentences.STATE, NONE = Sentences.NONE, BAD = Sentences.BAD;

    private static final String FRAMES = "promises 15, 17 and 21, the frames";
    private static final String CANDIDATES = "promise 15, the candidates of a goal";
    private static final String BUILTIN = "promise 15, the built-in predicates";
    private static final String NOT = "promise 15, not";
    private static final String BACKTRACKING = "promise 15, backtracking";
    private static final String UNIFYING = "promise 15, unifying";
    private static final String TRAIL = "promises 17 and 22, the trail";
    private static final String LIMIT = "promise 15, the limit of inferences";
    private static final String STATES = "promises 15 and 17, the states of a query";

    /** p(N) takes 3 N + 1 inferences and leaves one choice point. */
    private static final String COUNTDOWN = "p(0).p(N):-less(0,N),is(M,sub(N,1)),p(M).";

    public static void main(String[] args) {
        all();
        Checks.finish("BoundariesOfSearchTest");
    }

    static void all() {
        frames();
        candidates();
        choicePoints();
        cuts();
        plainGoals();
        numbers();
        calls();
        nots();
        tries();
        backtracking();
        unifying();
        bindingOfVariables();
        trail();
        limit();
        noInferences();
        states();
    }

    private static void frames() {
        Sentences.test(FRAMES, "frames are stacked, and only frames with remaining goals are kept", c -> {
            c.consult("p:-q,r.q:-s.r.s.", 4).ask("p,r.", 2).state(3, 1).frame(0, 2, 0, NONE);
            c.run(1, 1).state(3, 2).frame(0, 2, 0, 0).frame(1, 1, 0, NONE).frame(2, BAD);
            c.run(1, 1).state(3, 3).frame(0, 1, 0, 1).frame(1, 1, 0, 0).frame(2, 1, 0, NONE).frame(3, BAD);
            c.run(1, 1).state(3, 2).frame(0, 1, 0, 0).frame(1, 1, 0, NONE).run(1, 1).state(3, 1).frame(0, 1, 0, NONE);
            c.run(1, 2).state(3, 0).frame(0, BAD);
        });
        Sentences.test(FRAMES, "At first there is one frame with all goals of the query, and no choice point; the variables of the query"
                + " are created.", c -> {
            c.consult("p.p.", 2).ask("p.", 1).states(1, 0, 0, 1, 1, 0, 0, 0, 0, 0, 0, 0, 0).frame(0, 1, 0, NONE).frame(1, BAD);
            c.run(1, 2).ask("p,q(X,Y),r(X),s,t.", 5).states(1, 0, 0, 1, 5, 2, 0, 0, 0, 0, 0, 0, 0).frame(0, 5, 2, NONE).frame(1, BAD);
            c.choice(0, BAD).variable(0, 1, 1).variable(1, 3, 1).variable(2, 0, BAD).goal("p");
        });
        Sentences.test(FRAMES, "(if no goal remains in this frame, it is removed at once, before the goal is called)", c -> {
            c.consult("p:-q.p:-q.q:-r.r:-l.l:-l.", 5).ask("p.", 1).run(1, 1).states(1, 1, 0, 1, 1).choice(0, 1, 1, 0);
            c.run(1, 1).states(1, 2, 0, 1, 1).frame(0, 1, 0, 2).run(100, 1).states(1, 102, 0, 1, 1).state(11, 1);
            c.ask("p,true.", 2).run(1, 1).states(1, 1, 0, 2, 2).choice(0, 1, 1, 1).run(1, 1).states(1, 2, 0, 2, 2).state(11, 2);
            c.ask("not(p).", 1).run(1, 1).state(3, 1).choice(0, NONE, 0, 0).run(1, 1).state(3, 2).choice(0, 1, 1, 1);
        });
    }

    /** How many clauses are candidates for the only goal of this query, which fails when it has tried them. */
    private static void hasCandidates(Checks c, String goal, int count) {
        c.ask(goal + ".", 1).run(1, count == 0 ? 3 : 1).state(6, count > 1 ? 1 : 0).state(9, count == 0 ? 0 : 1);
        if (count > 1) {
            c.due("choice(0, 1)", c.m.choice(0, 1), count - 1);
        }
    }

    private static void candidates() {
        Sentences.test(CANDIDATES, "if there is none, or if the first argument of the goal or of the head is a variable (without a binding),"
                + " all can match", c -> {
            c.consult("p:-a.p:-a.p:-a.q(1):-a.q(X):-a.q(b):-a.q(f(1)):-a.", 7);
            hasCandidates(c, "p", 3);
            hasCandidates(c, "q(X)", 4);
            hasCandidates(c, "q(1)", 2);
            hasCandidates(c, "q(c)", 1);
            c.ask("same(X,1),q(X).", 2).run(2, 1).choice(0, 4, 1).ask("same(X,Y),q(X).", 2).run(2, 1).choice(0, 4, 3);
            c.ask("same(X,c),q(X).", 2).run(2, 1).state(6, 0).ask("same(X,Y),same(Y,b),q(X).", 3).run(3, 1).choice(0, 5, 1);
            c.consult("r(1,X):-a.r(1,2):-a.r(2,2):-a.", 3).ask("r(1,3).", 1).run(1, 1).choice(0, 8, 1).run(1, 3).state(9, 2);
        });
        Sentences.test(CANDIDATES, "otherwise both must be the same integer, the same atom, or compounds with the same name and number of"
                + " arguments", c -> {
            c.consult("q(1):-a.q(f):-a.q(f(1)):-a.q(f(2)):-a.q(f(1,2)):-a.q(g(1)):-a.", 6);
            c.consult("q([]):-a.q([1]):-a.q([1,2]):-a.q(01):-a.q(2):-a.", 5);
            String[] goals = {"1", "01", "3", "f", "g", "f(1)", "f(3)", "f(X)", "f(1,1)", "f(1,1,1)", "g(X)", "h(X)", "[]", "[3]", "[X|Y]",
                "102", "408", "0"};
            int[] counts = {2, 2, 0, 1, 0, 2, 2, 2, 1, 0, 1, 0, 1, 2, 2, 0, 0, 0};
            for (int i = 0; i < goals.length; i++) {
                hasCandidatesThatMayFail(c, "q(" + goals[i] + ")", counts[i]);
            }
        });
        Sentences.test(CANDIDATES, "If there is no candidate, the goal fails.", c -> {
            c.consult("p(1).p(2).q:-p(X),p(3).r(4).", 4);
            c.ask("p(3).", 1).run(1, 3).states(3, 1, 0).state(9, 0).ask("nosuch.", 1).run(1, 3).state(9, 0);
            c.ask("p.", 1).run(1, 3).state(9, 0).ask("q.", 1).run(300, 3).states(3, 4, 0).state(9, 3);
            c.ask("p(X),r(X).", 2).run(300, 3).state(1, 3).state(9, 2).ask("r(4).", 1).run(1, 2).state(9, 1);
        });
    }

    /** Whether all candidates of a goal are tried, where heads may still fail to be unified. */
    private static void hasCandidatesThatMayFail(Checks c, String goal, int count) {
        c.ask(goal + ".", 1);
        for (int i = 0; i < 9 && c.m.state(0) == 1; i++) {
            c.m.run(1);
        }
        c.state(0, 3).state(9, count);
    }

    private static void choicePoints() {
        Sentences.test(CANDIDATES, "If there are several, a choice point is created, which remembers the frames, the goal, and the other"
                + " candidates. Then the first candidate is tried.", c -> {
            c.consult("p(1,a).p(2,b).p(2,c).p(3,d).p(3,e).p(3,f).", 6);
            c.ask("p(1,X).", 1).run(1, 2).state(6, 0).state(9, 1).value(0, "a");
            c.ask("p(2,X).", 1).run(1, 2).state(6, 1).state(9, 1).value(0, "b").choice(0, 2, 1, 0, 1);
            c.ask("p(3,X),p(2,Y).", 2).run(1, 1).state(6, 1).value(0, "d").choice(0, 4, 2, 1, 1);
            c.run(1, 2).state(6, 2).choice(0, 2, 1, 0, 1).choice(1, 4, 2, 1, 2);
            c.consult("p(4,X).".repeat(14), 14).ask("p(4,1).", 1).run(1, 2).choice(0, 7, 13, 0, 0);
            c.ask("p(X,Y).", 1).run(1, 2).choice(0, 1, 19, 0, 2);
        });
    }

    private static void cuts() {
        Sentences.test(BUILTIN, "cut removes all choice points that were created since the clause in whose body it stands was called,"
                + " including the choice point for the clauses of this call", c -> {
            c.consult("p(1).p(2).a:-cut.a.b:-p(X),p(Y),cut,p(Z).b.d:-a,p(X).e:-b,cut.", 8);
            c.ask("p(X),a.", 2).run(2, 1).state(6, 2).run(1, 2).state(6, 1).choice(0, 1, 1, 1);
            c.ask("p(X),b.", 2).run(4, 1).state(6, 4).run(1, 1).state(6, 1).run(1, 2).state(6, 2).run(1, 2).state(6, 1);
            c.ask("d.", 1).run(300, 2).state(6, 1).ask("a,a,a.", 3).run(300, 2).state(6, 0).run(1, 3).state(9, 3);
            c.ask("p(X),e.", 2).run(300, 2).state(6, 1).run(300, 2).run(300, 3).state(2, 2);
        });
        Sentences.test(BUILTIN, "in a query, it removes all choice points", c -> {
            c.consult("p(1).p(2).q:-p(X).", 3).ask("p(X),q,p(Y),cut,p(Z).", 5).run(4, 1).state(6, 3).run(1, 1).state(6, 0);
            c.run(1, 2).state(6, 1).run(1, 2).state(6, 0).run(1, 3).ask("cut.", 1).run(1, 2).state(6, 0);
            c.ask("cut,p(X).", 2).run(2, 2).state(6, 1);
        });
        Sentences.test(BUILTIN, "As an argument of call, and as the goal G of a not, it does nothing but succeed.", c -> {
            c.consult("p(1).p(2).a:-p(X),call(cut).a.b:-p(X),not(cut).b.d:-p(X),cut.d.", 8);
            c.ask("p(X),call(cut).", 2).run(2, 2).state(6, 1).run(2, 2).value(0, "2").run(1, 3);
            c.ask("p(X),call(call(cut)).", 2).run(2, 2).state(6, 1).ask("p(X),same(G,cut),call(G).", 3).run(3, 2).state(6, 1);
            c.ask("a.", 1).run(3, 2).state(6, 2).ask("d.", 1).run(3, 2).state(6, 0).ask("call(d).", 1).run(3, 2).state(6, 0);
            c.ask("b.", 1).run(3, 1).state(6, 3).goal("cut").run(1, 1).state(6, 1).goal("not(cut)").run(300, 2).states(2, 6, 1);
            c.ask("not(call(cut)).", 1).run(2, 3).ask("not(not(cut)).", 1).run(3, 2);
        });
    }

    private static void plainGoals() {
        Sentences.test(BUILTIN, "true succeeds. fail fails.", c -> {
            c.ask("true.", 1).run(1, 2).states(2, 1, 1).run(1, 3).ask("fail.", 1).run(1, 3).states(3, 1, 0);
            c.consult("p(1).p(2).", 2).ask("p(X),fail.", 2).run(300, 3).states(3, 3, 0).ask("p(X),true.", 2).run(300, 2).value(0, "1");
        });
        Sentences.test(BUILTIN, "same(A, B) unifies A and B. is(A, E) unifies A and the value of E.", c -> {
            c.ask("same(X,add(1,2)).", 1).run(1, 2).value(0, "add(1,2)").ask("is(X,add(1,2)).", 1).run(1, 2).value(0, "3");
            c.ask("same(3,add(1,2)).", 1).run(1, 3).ask("is(3,add(1,2)).", 1).run(1, 2).ask("is(4,add(1,2)).", 1).run(1, 3);
            c.ask("same(add(1,2),add(1,2)).", 1).run(1, 2).ask("is(add(1,2),add(1,2)).", 1).run(1, 3).ask("is(a,1).", 1).run(1, 3);
            c.ask("same(X,3),is(X,add(1,2)),same(Y,X).", 3).run(3, 2).value(1, "3").ask("same(X,2),is(X,add(1,2)).", 2).run(2, 3);
            c.ask("is(X,1),is(X,add(X,1)).", 2).run(2, 3).state(10, 0).ask("is([X],1).", 1).run(1, 3);
        });
        Sentences.test(BUILTIN, "The value of an integer is this integer; that of add(A, B), sub(A, B) and mul(A, B) is the sum, difference and"
                + " product of the values of A and B", c -> {
            c.ask("is(A,7),is(B,add(7,5)),is(C,sub(5,7)),is(D,mul(7,5)),is(E,sub(A,add(B,mul(C,D)))).", 5).run(5, 2);
            c.value(0, "7").value(1, "12").value(2, "-2").value(3, "35").value(4, "65");
            c.ask("is(A,0),is(B,add(0,0)),is(C,mul(0,9)),is(D,sub(9,9)),is(E,sub(sub(9,3),sub(3,9))).", 5).run(5, 2);
            c.value(0, "0").value(1, "0").value(2, "0").value(3, "0").value(4, "12");
        });
    }

    private static void numbers() {
        Sentences.test(BUILTIN, "less(D, E) succeeds if the value of D is less than that of E, otherwise it fails.", c -> {
            int[][] pairs = {{0, 1}, {1, 1}, {1, 0}, {0, 0}, {999998, 999999}, {999999, 999999}};
            for (int[] pair : pairs) {
                c.ask("less(" + pair[0] + "," + pair[1] + ").", 1).run(1, pair[0] < pair[1] ? 2 : 3);
            }
            c.ask("less(sub(0,1),0).", 1).run(1, 2).ask("less(0,sub(0,1)).", 1).run(1, 3).ask("less(sub(0,1),sub(0,1)).", 1).run(1, 3);
            c.ask("is(L,mul(65536,32768)),is(H,sub(L,1)),less(L,H).", 3).run(3, 2).value(0, "-2147483648").value(1, "2147483647");
            c.ask("is(L,mul(65536,32768)),is(H,sub(L,1)),less(H,L).", 3).run(3, 3);
        });
        Sentences.test(BUILTIN, "as an int with overflow", c -> {
            c.ask("is(X,mul(46340,46340)),is(Y,mul(46341,46341)).", 2).run(2, 2).value(0, "2147395600").value(1, "-2147479015");
            c.ask("is(L,mul(65536,32768)),is(H,sub(L,1)),is(A,add(H,1)),is(B,sub(L,1)),is(C,sub(0,L)).", 5).run(5, 2);
            c.value(0, "-2147483648").value(1, "2147483647").value(2, "-2147483648").value(3, "2147483647").value(4, "-2147483648");
            c.ask("is(L,mul(65536,32768)),is(X,mul(L,sub(0,1))),is(Y,add(L,L)).", 3).run(3, 2).value(1, "-2147483648").value(2, "0");
        });
        Sentences.test(BUILTIN, "all other terms have no value, and then the query ends with the error 2", c -> {
            String[] none = {"a", "[]", "[1]", "Y", "add", "add(1)", "add(1,2,3)", "div(1,2)", "sub(1,a)", "mul(a,1)", "add(1,Y)",
                "add(add(1,[]),1)", "f(1)"};
            for (String term : none) {
                c.ask("is(X," + term + ").", 1).run(1, 4).states(4, 1).state(10, 2);
                c.ask("less(" + term + ",1).", 1).run(1, 4).state(10, 2).ask("less(1," + term + ").", 1).run(1, 4).state(10, 2);
            }
            for (String term : new String[] {"1", "add(1,0)", "sub(2,1)", "mul(1,1)", "add(sub(1,1),mul(1,1))"}) {
                c.ask("is(X," + term + ").", 1).run(1, 2).value(0, "1").state(10, 0).ask("less(" + term + ",2).", 1).run(1, 2);
            }
            c.ask("same(Y,add(1,2)),is(X,add(Y,Y)).", 2).run(2, 2).value(1, "6").ask("same(Y,a),is(X,Y).", 2).run(2, 4).state(10, 2);
            c.consult("p(1).p(2).", 2).ask("p(X),is(Y,Z).", 2).run(300, 4).state(10, 2).state(6, 0).ask("is(2,1).", 1).run(1, 3).state(10, 0);
        });
    }

    private static void calls() {
        Sentences.test(BUILTIN, "call(G) calls G as a goal, within the same inference.", c -> {
            c.consult("p(1).p(2).q:-p(X),p(Y).", 3).ask("call(true).", 1).run(1, 2).state(1, 1).ask("call(call(call(true))).", 1);
            c.run(1, 2).state(1, 1).ask("call(p(X)).", 1).run(1, 2).states(2, 1, 1, 0, 0, 0, 1).state(9, 1).value(0, "1");
            c.ask("call(q),true.", 2).run(1, 1).states(1, 1, 0, 2, 3).ask("call(not(fail)).", 1).run(1, 1).states(1, 1, 0, 1, 2, 0, 1, 1);
            c.ask("same(G,p(X)),call(G).", 2).run(2, 2).state(1, 2).value(0, "p(1)").ask("call(same(X,1)),call(less(X,2)).", 2).run(2, 2);
            c.ask("call(fail).", 1).run(1, 3).state(1, 1).ask("call(p(3)).", 1).run(1, 3).state(9, 0);
        });
        Sentences.test(BUILTIN, "If G is a variable, an integer or a list (also []), the query ends with the error 1.", c -> {
            for (String wrong : new String[] {"X", "0", "7", "[]", "[a]", "[a|b]", "[X|Y]"}) {
                c.ask("call(" + wrong + ").", 1).run(1, 4).states(4, 1).state(10, 1).ask("call(call(" + wrong + ")).", 1).run(1, 4).state(10, 1);
                c.ask("same(G," + wrong + "),call(G).", 2).run(2, 4).states(4, 2).state(10, 1);
            }
            c.consult("a.f(X).", 2);
            for (String right : new String[] {"a", "f(X)", "f([])", "true"}) {
                c.ask("call(" + right + ").", 1).run(1, 2).state(10, 0).ask("same(G," + right + "),call(G).", 2).run(2, 2).state(10, 0);
            }
            c.ask("call(b).", 1).run(1, 3).state(10, 0);
        });
    }

    private static void nots() {
        Sentences.test(NOT, "not(G) first checks G as call does (error 1).", c -> {
            for (String wrong : new String[] {"X", "0", "[]", "[a]", "[a|b]"}) {
                c.ask("not(" + wrong + ").", 1).run(1, 4).states(4, 1, 0, 0, 0, 0, 0, 0, 0, 0, 1, 1, 0);
                c.ask("call(not(" + wrong + ")).", 1).run(1, 4).state(10, 1).ask("same(G," + wrong + "),not(G).", 2).run(2, 4).state(10, 1);
            }
            c.ask("not(a).", 1).run(1, 1).state(10, 0).run(1, 2).ask("not(f([])).", 1).run(2, 2);
            c.ask("not(call(X)).", 1).run(1, 1).state(10, 0).run(1, 4).states(4, 2).state(10, 1);
        });
        Sentences.test(NOT, "Then it creates a choice point, which is called a barrier and remembers the frames, and puts a frame on top that"
                + " has two goals, G and the end of this not; so G is called by the next inference.", c -> {
            c.consult("p(1).", 1).ask("not(p(X)).", 1).run(1, 1).states(1, 1, 0, 1, 2, 0, 1, 1).goal("p(_0)");
            c.choice(0, NONE, 0, 0, 0).choice(1, BAD).frame(0, 2, 0, NONE).frame(1, BAD).state(9, 0);
            c.ask("not(p(2)),true,true.", 3).run(1, 1).states(1, 1, 0, 2, 4, 0, 1, 1).choice(0, NONE, 0, 1, 0).frame(1, 2, 0, NONE);
            c.ask("not(p(2)).", 1).run(1, 1).run(1, 2).state(1, 2).ask("not(true).", 1).run(1, 1).run(1, 3).state(1, 2);
        });
        Sentences.test(NOT, "If the end is the first goal of the top frame, this frame is removed, the barrier and all choice points that were"
                + " created after it are removed, and then not(G) fails; this is no inference.", c -> {
            c.consult("p(1).p(2).q:-p(X),p(Y).", 3);
            c.ask("not(p(X)).", 1).run(2, 3).states(3, 2, 0).ask("not(q).", 1).run(3, 1).state(6, 2).run(1, 3).states(3, 4, 0).state(9, 3);
            c.ask("p(X),not(q).", 2).run(4, 1).state(6, 3).state(7, 1).run(1, 1).state(6, 0).state(7, 0).goal("not(q)").value(0, "2");
            c.run(300, 3).states(3, 9, 0).ask("not(not(p(X))),true.", 2).run(3, 1).states(1, 3, 0, 1, 1, 0, 0, 0).value(0, "_0");
            c.ask("p(X),not(same(X,1)).", 2).run(2, 1).run(1, 1).states(1, 3, 0, 1, 1).goal("not(same(2,1))");
            c.run(1, 1).states(1, 4, 0, 1, 2).goal("same(2,1)").run(1, 2).value(0, "2");
        });
        Sentences.test(NOT, "If backtracking reaches the barrier, it is removed, the frames are those that it remembers, and not(G) has"
                + " succeeded.", c -> {
            c.consult("p(1).p(2).", 2).ask("not(p(3)),p(X).", 2).run(2, 1).states(1, 2, 0, 1, 1, 1, 0, 0).goal("p(_0)").run(1, 2).state(6, 1);
            c.ask("not(fail).", 1).run(2, 2).states(2, 2, 1, 0, 0, 0, 0, 0).run(1, 3);
            c.ask("p(X),not(same(X,3)),true.", 3).run(3, 1).states(1, 3, 0, 1, 1, 0, 1, 0, 1).goal("true").run(1, 2).run(3, 2).value(0, "2");
            c.ask("not(not(fail)).", 1).run(3, 3).state(1, 3);
        });
        Sentences.test(NOT, "Both goals of such a frame count as remaining goals without variables.", c -> {
            c.consult("p(1).p(X):-q(X,Y),q(Y,X).", 2).ask("not(p(X)),r(X,Y).", 2).state(4, 2).state(5, 2);
            c.run(1, 1).state(4, 3).state(5, 2).frame(0, 2, 0, NONE).frame(1, 1, 2, NONE);
            c.ask("not(p(2)),r(X).", 2).run(2, 1).state(4, 4).state(5, 3).frame(0, 2, 2, 1).frame(1, 1, 0, NONE).frame(2, 1, 1, NONE);
        });
    }

    private static void tries() {
        Sentences.test(BACKTRACKING, "its variables are created, without bindings, and its head is unified with the goal. If this fails, the"
                + " goal fails. Otherwise the goals of its body, if there are any, become a new frame on top.", c -> {
            c.consult("p(X,1):-q(X).p(X,2).p(X,X):-q(Y),q(X).q(3).", 4);
            c.ask("p(A,2).", 1).run(1, 2).states(2, 1, 1, 0, 0, 0, 1).state(9, 2).clause(0, 6, 1).clause(0, 7, 0).clause(1, 7, 1).value(0, "_0");
            c.run(1, 1).states(1, 2, 1, 1, 1).clause(2, 6, 1).clause(2, 7, 1).value(0, "2").goal("q(2)").frame(0, 1, 1, 2).run(1, 3);
            c.ask("p(A,1).", 1).run(1, 1).state(3, 1).frame(0, 1, 1, 0).ask("p(4,5).", 1).run(1, 3).state(9, 3).clause(2, 7, 0);
            c.ask("q(4).", 1).run(1, 3).state(9, 0).ask("q(3).", 1).run(1, 2).state(3, 0);
        });
    }

    private static void backtracking() {
        Sentences.test(BACKTRACKING, "the query fails if there is no choice point", c -> {
            c.consult("p(1).p(2).q(1).", 3).ask("fail.", 1).run(1, 3).ask("q(1),fail.", 2).run(2, 3).states(3, 2, 0);
            c.ask("p(X),fail.", 2).run(2, 1).state(0, 1).run(1, 3).state(1, 3).ask("p(X),cut,fail.", 3).run(3, 3).state(1, 3);
            c.ask("not(fail),fail.", 2).run(3, 3).state(1, 3);
        });
        Sentences.test(BACKTRACKING, "Otherwise the newest choice point is taken: all bindings that were made since its creation are undone,"
                + " variables created since then do not exist any more, and the frames are again those that it remembers.", c -> {
            c.consult("p(1).p(2).p(3).q(X,Y):-same(X,f(Z)),p(Z).q(X,Y).", 5);
            c.ask("same(A,0),p(B),same(C,B),p(D),less(1,D).", 5).run(5, 1).value(0, "0").value(1, "1").value(2, "1").value(3, "2");
            c.state(1, 5).goal("less(1,2)").run(1, 2).run(1, 2).value(3, "3").value(2, "1").choice(0, 1, 2).choice(1, BAD);
            c.run(1, 1).goal("p(_0)").value(0, "0").value(1, "2").value(2, "2").value(3, "_0").choice(0, 2, 1).choice(1, BAD);
            c.ask("p(A),same(B,A),less(1,A).", 3).run(3, 1).value(0, "2").value(1, "_0").state(3, 1).state(4, 2).goal("same(_0,2)");
            c.ask("q(A,B),less(C,1).", 2).run(3, 1).value(0, "f(1)").run(1, 4).value(0, "_0");
            c.ask("q(A,B),same(A,B),same(A,4).", 3).run(3, 1).value(0, "f(1)").run(300, 2).value(0, "4").value(1, "4").states(2, 11, 1);
        });
        Sentences.test(BACKTRACKING, "its next candidate is tried for its goal; before the last candidate is tried, the choice point is removed",
            c -> {
                c.consult("p(1).p(2).p(3).q(1).q(2).", 5).ask("p(X).", 1).run(1, 2).choice(0, 1, 2).run(1, 2).choice(0, 2, 1).value(0, "2");
                c.run(1, 2).state(6, 0).state(8, 0).value(0, "3").run(1, 3).ask("q(X).", 1).run(1, 2).state(6, 1).state(8, 1);
                c.run(1, 2).state(6, 0).state(8, 0).run(1, 3).state(9, 2);
                c.consult("r(X,1).r(X,2).r(X,2):-true,true.", 3).ask("r(X,2).", 1).run(1, 2).choice(0, 7, 1).run(1, 1).state(6, 0);
            });
    }

    private static void unifying() {
        Sentences.test(BACKTRACKING, "A query is solved if no frame is left. This is a solution; when the query is continued after it, this"
                + " begins with backtracking.", c -> {
            c.consult("p(1).p(2).", 2).ask("true,true.", 2).run(1, 1).states(1, 1, 0, 1).run(1, 2).states(2, 2, 1, 0).run(1, 3).states(3, 2, 1);
            c.ask("p(X).", 1).run(1, 2).states(2, 1, 1).run(1, 2).states(2, 1, 2).value(0, "2").run(1, 3).states(3, 1, 2);
            c.ask("p(X),true.", 2).run(2, 2).run(1, 2).states(2, 3, 2).value(0, "2");
        });
        Sentences.test(UNIFYING, "to bind variables so that both become equal, as generally as possible", c -> {
            c.ask("same(f(X,Y),f(Y,Z)).", 1).run(1, 2).variable(0, 3, 0).variable(1, 3, 0).variable(2, 3, 0).variable(2, 1, 1);
            c.ask("same(f(X,g(Y)),f(g(Z),X)).", 1).run(1, 2).value(0, "g(_0)").variable(1, 3, 1).variable(2, 3, 1);
            c.ask("same(X,f(Y)),same(Z,Z),same(W,V).", 3).run(3, 2).value(0, "f(_0)").value(2, "_0").variable(2, 3, 2).variable(4, 3, 3);
            c.ask("same(a,a).", 1).run(1, 2).ask("same(a,b).", 1).run(1, 3).ask("same(1,01).", 1).run(1, 2).ask("same(1,2).", 1).run(1, 3);
            c.ask("same(a,a(1)).", 1).run(1, 3).ask("same(f(X),f(X,Y)).", 1).run(1, 3).ask("same(1,a).", 1).run(1, 3).ask("same([],a).", 1).run(1, 3);
            c.ask("same(f(X,X),f(1,2)).", 1).run(1, 3).ask("same(f(X,X),f(1,1)).", 1).run(1, 2);
        });
        Sentences.test(UNIFYING, "it fails if that is not possible, also if a variable would have to be bound to a compound that contains it",
            c -> {
                c.ask("same(X,X).", 1).run(1, 2).ask("same(X,f(X)).", 1).run(1, 3).ask("same(X,f(Y)).", 1).run(1, 2);
                c.ask("same(f(X),X).", 1).run(1, 3).ask("same(X,[a|X]).", 1).run(1, 3).ask("same(f(X,Y),f(g(Y),g(X))).", 1).run(1, 3);
                c.ask("same(f(X,Y),f(g(Y),g(Z))).", 1).run(1, 2).ask("same(f(X,X),f(Y,g(Y))).", 1).run(1, 3);
                c.ask("same(X,Y),same(Y,f(X)).", 2).run(2, 3).ask("same(X,f(Y)),same(Y,g(X)).", 2).run(2, 3);
                c.ask("same(X,f(Y)),same(X,f(Y)).", 2).run(2, 2).ask("same(f(X),f(X)).", 1).run(1, 2).ask("same(X,f(g(h(1,X)))).", 1).run(1, 3);
                c.consult("p(X,f(X)).q(f(X),X).", 2).ask("p(A,A).", 1).run(1, 3).clause(0, 6, 1).clause(0, 7, 0).ask("p(A,f(A)).", 1).run(1, 2);
                c.ask("q(A,A).", 1).run(1, 3).ask("q(A,B).", 1).run(1, 2).ask("p(A,f(f(A))).", 1).run(1, 3);
                // also among other variables, and among those of clauses
                c.ask("same(A,1),same(B,f(C)),same(C,f(B)).", 3).run(2, 1).run(1, 3).ask("same(f(A,B),f(C,g(B))).", 1).run(1, 3);
                c.consult("r(A,B):-same(C,f(A)),same(B,f(C)),same(A,B).s(A):-same(f(B,C),f(g(C),g(B))).", 2);
                c.ask("r(X,Y).", 1).run(3, 1).run(1, 3).ask("s(X).", 1).run(1, 1).run(1, 3);
            });
    }

    private static void bindingOfVariables() {
        Sentences.test(UNIFYING, "If two different variables without bindings have to become equal, the one that was created later is bound"
                + " to the other one.", c -> {
            // between X and the variables of a clause stands a choice point: only X would come to the trail
            c.consult("p.p.h(A).a(A):-same(A,B).b(A):-same(B,A).d(A,A).e(A):-p,same(A,B).g(A):-same(B,A),p,same(B,C).", 8);
            c.ask("p,h(X).", 2).run(300, 2).state(8, 0).ask("p,a(X).", 2).run(300, 2).state(8, 0).ask("p,b(X).", 2).run(300, 2).state(8, 0);
            c.ask("p,d(X,Y).", 2).run(300, 2).state(8, 1).variable(1, 3, 0).ask("p,d(Y,X).", 2).run(300, 2).state(8, 1).variable(1, 3, 0);
            c.ask("p,e(X).", 2).run(300, 2).state(8, 1).ask("p,g(X).", 2).run(300, 2).state(8, 1);
            c.ask("p,same(X,X).", 2).run(2, 2).state(8, 0).ask("p,same(X,Y),same(Y,X).", 3).run(3, 2).state(8, 1);
        });
        Sentences.test(UNIFYING, "The variables of a clause or query are created in the order in which they first occur in it.", c -> {
            c.ask("p(B,A),q(C,A,B).", 2).goal("p(_0,_1)").variable(0, 3, 0).variable(2, 3, 2).variable(3, 3, BAD);
            c.ask("same(f(B,A),f(1,2)),same(C,3).", 2).run(2, 2).value(0, "1").value(1, "2").value(2, "3");
            c.ask("same(Z,Y),same(Y,X).", 2).run(2, 2).variable(0, 3, 0).variable(1, 3, 0).variable(2, 3, 0);
        });
    }

    private static void trail() {
        Sentences.test(TRAIL, "The trail contains each variable that was bound since the query began and that had been created before the"
                + " choice point that was the newest one at the time of the binding (so nothing without a choice point)", c -> {
            c.consult("p.p.q(1).q(2).r(1).a:-same(A,1),p.b:-p,same(A,1).d:-same(A,1),p.d.e(X):-same(X,1).e(2).", 11);
            c.ask("same(X,1).", 1).run(1, 2).state(8, 0).ask("r(X).", 1).run(1, 2).state(8, 0).ask("same(X,1),p.", 2).run(2, 2).state(8, 0);
            c.ask("p,same(X,1).", 2).run(2, 2).state(8, 1).ask("q(X).", 1).run(1, 2).state(8, 1).ask("p,r(X).", 2).run(2, 2).state(8, 1);
            c.ask("a.", 1).run(3, 2).state(8, 0).ask("b.", 1).run(3, 2).state(8, 1).ask("p,a.", 2).run(4, 2).state(8, 0);
            c.ask("d.", 1).run(3, 2).state(8, 0).ask("e(X).", 1).run(2, 2).state(8, 1).ask("p,same(X,f(Y)),same(Y,Z).", 3).run(3, 2).state(8, 2);
            c.ask("not(fail),same(X,1).", 2).run(3, 2).state(8, 0).ask("not(same(X,1)).", 1).run(1, 1).state(8, 0);
            c.ask("not(not(e(X))).", 1).run(3, 1).state(6, 3).state(8, 0).ask("not(b).", 1).run(3, 1).state(6, 2).state(8, 0);
        });
        Sentences.test(TRAIL, "backtracking removes the variables whose bindings it undoes", c -> {
            c.consult("q(1).q(2).q(3).", 3).ask("q(X),q(Y),less(X,Y).", 3).run(2, 1).state(8, 2).run(1, 1).state(8, 2).choice(0, 2, 1, 1, 1);
            c.run(1, 2).state(8, 2).run(300, 2).value(1, "3").state(8, 2).run(300, 2).value(0, "2").value(1, "3").state(8, 2);
            c.run(300, 3).state(8, 0).ask("q(X),not(q(X)).", 2).run(2, 1).state(8, 1).choice(0, NONE, 0, 0, 0).choice(1, 1, 2, 1, 1);
            c.run(1, 1).state(8, 1).value(0, "2");
        });
        Sentences.test(TRAIL, "Removing choice points does not change the trail.", c -> {
            c.consult("p.p.q(1).q(2).a(X):-q(X),cut.a(3).", 6).ask("q(X),p,cut,true.", 4).run(2, 1).state(6, 2).state(8, 1);
            c.run(1, 1).state(6, 0).state(8, 1).run(1, 2).state(8, 1).run(1, 3).state(8, 0);
            c.ask("p,a(X).", 2).run(2, 1).state(6, 2).run(1, 1).state(6, 3).state(8, 1).run(1, 2).state(6, 1).state(8, 1).choice(0, 1, 1, 1, 1);
            c.run(300, 2).state(6, 0).state(8, 1);
        });
    }

    private static void limit() {
        Sentences.test(LIMIT, "A query can have at most 300 inferences; if 300 have been made and another one would be necessary, the query"
                + " ends with the error 3 (also if run would stop there).", c -> {
            c.consult(COUNTDOWN, 2).consult("l:-l.q.q.", 3);
            // run would stop there
            c.ask("l.", 1).run(299, 1).states(1, 299).run(1, 4).states(4, 300).state(10, 3).run(1, STATE);
            c.ask("l.", 1).run(300, 4).states(4, 300).state(10, 3);
            c.ask("l.", 1).run(150, 1).run(149, 1).run(2, 4).states(4, 300).state(10, 3);
            // exactly 300 are enough, for a solution or a failure
            c.ask("p(99),true.", 2).run(300, 2).states(2, 299, 1).ask("p(99),true,true.", 3).run(300, 2).states(2, 300, 1).state(10, 0);
            c.ask("p(99),true,true,true.", 4).run(300, 4).states(4, 300, 0).state(10, 3);
            c.ask("p(99),cut,fail.", 3).run(300, 3).states(3, 300, 0).state(10, 0).ask("p(99),cut,true,fail.", 4).run(300, 4).state(10, 3);
            c.ask("p(99),true,call(1).", 3).run(300, 4).states(4, 300).state(10, 1).ask("p(99),true,is(X,a).", 3).run(300, 4).state(10, 2);
            // what the last inferences compute is kept
            c.ask("p(99),is(X,add(3,4)),is(Y,add(X,1)).", 3).run(300, 2).states(2, 300, 1).value(0, "7").value(1, "8");
            // the next query begins again
            c.ask("q.", 1).run(1, 2).states(2, 1, 1);
        });
        Sentences.test(LIMIT, "if 300 have been made and another one would be necessary, the query ends with the error 3", c -> {
            c.consult(COUNTDOWN, 2).ask("p(200).", 1);
            for (int made = 1; made <= 299; made++) {
                c.run(1, 1);
            }
            c.states(1, 299).run(1, 4).states(4, 300, 0).state(10, 3);
        });
    }

    private static void noInferences() {
        Sentences.test(LIMIT, "Backtracking, tries and the end of a not are no inferences.", c -> {
            c.consult("p(1).p(2).p(3).t(X,1).t(X,2).t(X,3).", 6);
            c.ask("p(X).", 1).run(1, 2).run(1, 2).run(1, 2).run(1, 3).states(3, 1, 3).state(9, 3);
            c.ask("t(a,3).", 1).run(1, 2).states(2, 1, 1).state(9, 3).ask("t(a,4).", 1).run(1, 3).states(3, 1, 0).state(9, 3);
            c.ask("not(true).", 1).run(2, 3).state(1, 2).ask("not(not(not(true))).", 1).run(4, 3).state(1, 4);
            c.ask("not(fail).", 1).run(2, 2).state(1, 2).ask("p(X),less(2,X).", 2).run(4, 2).states(2, 4, 1).value(0, "3");
            // and so they go on behind the 300th inference
            c.consult(COUNTDOWN.replace("p", "n"), 2).ask("n(98),cut,true,true,p(X).", 5).run(300, 2).states(2, 299, 1);
            c.ask("n(99),cut,p(X).", 3).run(300, 2).states(2, 300, 1).value(0, "1").run(1, 2).value(0, "2").run(1, 2).value(0, "3");
            c.states(2, 300, 3).run(1, 3).states(3, 300, 3).state(10, 0);
            c.ask("n(99),cut,t(a,3).", 3).run(300, 2).states(2, 300, 1).ask("n(98),cut,true,true,not(a).", 5).run(300, 2).states(2, 300, 1);
            c.ask("n(98),cut,true,true,not(not(a)).", 5).run(300, 4).state(10, 3);
            c.ask("n(98),cut,true,not(a).", 4).run(300, 2).states(2, 299, 1).ask("n(98),cut,true,not(not(a)).", 4).run(300, 3).states(3, 300, 0);
            c.ask("n(98),cut,true,true,n(0).", 5).run(300, 2).states(2, 299, 1).run(300, 3).states(3, 300, 1);
            c.ask("n(99),cut,n(0).", 3).run(300, 2).states(2, 300, 1).run(300, 4).states(4, 300, 1).state(10, 3);
        });
    }

    private static void states() {
        Sentences.test(STATES, "0 there is no query, 1 it is running (or has just been asked), 2 it stands at a solution, 3 it has failed,"
                + " 4 it has ended with an error", c -> {
            c.state(0, 0).ask("true,true.", 2).state(0, 1).run(1, 1).state(0, 1).run(1, 2).state(0, 2).run(1, 3).state(0, 3).stop(3).state(0, 0);
            c.ask("call(X).", 1).state(0, 1).run(1, 4).state(0, 4).state(10, 1).ask("is(X,Y).", 1).state(0, 1).run(1, 4).state(0, 4);
            c.consult("", 0).state(0, 0);
        });
        Sentences.test(STATES, "In the states 3 and 4 there are no frames and no choice points, the trail is empty, and the variables of the"
                + " query have no bindings.", c -> {
            c.consult("p(1).p(2).q:-p(X),call(X),p(X).", 3);
            for (String end : new String[] {"call(1)", "is(Z,a)", "q", "cut,fail", "p(3),cut"}) {
                c.ask("same(Y,5),p(X)," + end + ",true.", 4 + (end.contains(",cut") || end.startsWith("cut") ? 1 : 0));
                c.run(2, 1).state(6, 1).state(8, 1).value(0, "5").value(1, "1");
                int state = end.contains("cut") ? 3 : 4;
                c.run(300, state).states(state, c.m.state(1), 0, 0, 0, 0, 0, 0, 0).frame(0, BAD).choice(0, BAD).goal("");
                c.value(0, "_0").value(1, "_0").variable(0, 0, 0).variable(1, 1, 1).variable(1, 2, NONE).variable(1, 3, 1);
            }
            c.ask("same(X,1).", 1).run(1, 2).value(0, "1").run(1, 3).value(0, "_0").variable(0, 0, 0);
        });
    }
}

/** The boundary cases of CONVENTIONS and of TERMS, CLAUSES, PREDICATES, on which all promises rest. */
public final class BoundariesOfTermsTest {
    private static final int BAD = Sentences.BAD, STATE = Sentences.STATE, FULL = Sentences.FULL, NONE = Sentences.NONE;

    private static final String ALL = "promises 1 to 22, CONVENTIONS";
    private static final String TERMS = "promises 4, 10, 12 and 15, TERMS";
    private static final String PREDICATES = "promises 4, 9, 10 and 15, PREDICATES";
    private static final String CLAUSES = "promises 4, 5, 10 and 14, CLAUSES";

    public static void main(String[] args) {
        all();
        Checks.finish("BoundariesOfTermsTest");
    }

    static void all() {
        conventions();
        terms();
        predicates();
        clauses();
    }

    private static void conventions() {
        Sentences.test(ALL, "If several of them apply to one call, the first one in this list is returned.", c -> {
            // BAD and FULL
            c.type(" ".repeat(120));
            c.due("write(31)", c.m.write(31), BAD);
            c.due("write(127)", c.m.write(127), BAD);
            c.due("write(32)", c.m.write(32), FULL);
            // BAD and STATE
            c.run(0, BAD).run(301, BAD).run(1, STATE).run(300, STATE);
            c.ask("fail.", 1).run(1, 3).run(0, BAD).run(301, BAD).run(1, STATE);
            c.ask("call(1).", 1).run(1, 4).run(0, BAD).run(301, BAD).run(1, STATE);
        });
        Sentences.test(ALL, "A call that returns one of them changes nothing.", BoundariesOfTermsTest::refusedCalls);
        Sentences.test(ALL, "NONE (-9) means that there is no such value; it is returned only if no error code applies.", c -> {
            c.goal("");
            c.due("goal(-1)", c.m.goal(-1), BAD);
            c.consult("p(X):-q(X).", 1).reaches(0, 0, NONE).reaches(0, 1, BAD).reaches(1, 0, BAD);
            c.due("listing(0, 200)", c.m.listing(0, 200), NONE);
            c.due("listing(1, 200)", c.m.listing(1, 200), BAD);
            c.ask("not(p(X)),same(X,a).", 2).fault(1, NONE).fault(2, BAD).variable(0, 2, NONE).variable(1, 2, BAD);
            c.due("value(0, 200)", c.m.value(0, 200), NONE);
            c.due("value(1, 200)", c.m.value(1, 200), BAD);
            c.frame(0, 2, 1, NONE, BAD).frame(1, BAD, BAD, BAD, BAD).run(1, 1);
            c.choice(0, NONE, 0, 1, 0, BAD).choice(1, BAD, BAD, BAD, BAD, BAD);
            c.run(300, 2).variable(0, 3, NONE).variable(1, 3, BAD);
        });
    }

    private static void refusedCalls(Checks c) {
        c.undo(STATE).run(1, STATE).stop(STATE).told(3, 0).state(0, 0);
        c.consult("p(1).p(2).", 2).ask("p(X).", 1).run(1, 2);
        c.due("write(31)", c.m.write(31), BAD);
        c.due("write(127)", c.m.write(127), BAD);
        c.due("retract(2)", c.m.retract(2), BAD);
        c.due("move(0, 2)", c.m.move(0, 2), BAD);
        c.due("move(2, 0)", c.m.move(2, 0), BAD);
        c.due("fault(2)", c.m.fault(2), BAD);
        c.run(0, BAD).run(301, BAD).told(4, 5).told(0, 2).told(3, 1).states(2, 1, 1, 0, 0, 0, 1, 0, 1, 1);
        c.type("p(3). p(").due("consult()", c.m.consult(), STATE);
        c.due("ask()", c.m.ask(), STATE);
        c.told(4, 8).told(0, 2).told(3, 1).states(2, 1, 1, 0, 0, 0, 1, 0, 1, 1).value(0, "1");
        c.run(1, 2).value(0, "2").run(1, 3).run(1, STATE).states(3, 1, 2).stop(3).stop(STATE).state(0, 0);
        c.type(" ".repeat(120)).due("write(97)", c.m.write(97), FULL);
        c.told(4, 120).fault(0, NONE).undo(0).told(0, 0).ask("true.", 1).run(1, 2);
        c.undo(STATE).state(0, 2).told(3, 0);
        // the other side: the calls that return no error code
        c.consult("p(1).", 1).state(0, 0).told(3, 1);
    }

    private static void terms() {
        Sentences.test(TERMS, "An atom is a name without arguments, a compound is a name with 1 to 3 arguments, which are terms.", c -> {
            c.consult("p(a).p(f(a)).p(f(a,b)).p(f(a,b,c)).", 4);
            c.clause(0, 4, 3).clause(1, 4, 4).clause(2, 4, 4).clause(3, 4, 4);
            c.faults("p(f()).", 4, 4).faults("p(f(a,b,c,d)).", 9, 9).faults("p(f([],1,X)).", NONE, NONE);
            c.ask("same(A,f),same(B,f(A)),same(C,f(1,[],B)).", 3).run(3, 2).variable(0, 1, 3).variable(1, 1, 4).variable(2, 1, 4);
        });
        Sentences.test(TERMS, "The empty list is an atom with the special name [].", c -> {
            c.consult("p([]).p([ ]).p(a).p([a]).", 4).clause(0, 4, 3).clause(1, 4, 3).clause(3, 4, 4);
            c.overlaps(0, 1).ask("same(X,[]),p(X).", 2).variable(0, 1, 1).run(2, 2).variable(0, 1, 3);
            c.state(6, 1).state(9, 1).run(1, 2).run(1, 3).state(9, 2);
            c.ask("same([],[]).", 1).run(1, 2).ask("same([],a).", 1).run(1, 3).ask("same([],[[]]).", 1).run(1, 3);
            c.ask("same([],0).", 1).run(1, 3);
        });
        Sentences.test(TERMS, "A list with the first element H and the list T of all others is the compound with the special name . (a point)"
                + " and the arguments H and T.", c -> {
            for (String equal : new String[] {"[a],[a|[]]", "[a,b,c],[a|[b,c]]", "[a,b,c],[a,b|[c|[]]]", "[X|Y],[a]", "[X,Y|Z],[a,b]"}) {
                c.ask("same(" + equal + ").", 1).run(1, 2);
            }
            for (String other : new String[] {"[a],[b]", "[a],[a,a]", "[a],a", "[X|Y],[]", "[X,Y|Z],[a]", "[a,b],f(a,[b])"}) {
                c.ask("same(" + other + ").", 1).run(1, 3);
            }
            c.consult("p([a]).p([b,c]).p(f(a,[])).p([]).", 4).clause(0, 4, 4).clause(1, 4, 4).overlaps(0, 1);
            c.ask("p([X|Y]).", 1).run(300, 2).value(0, "a").value(1, "[]").run(300, 2).value(0, "b").value(1, "[c]").run(300, 3);
        });
    }

    private static void predicates() {
        Sentences.test(PREDICATES, "A predicate is a name together with a number of arguments, 0 to 3.", c -> {
            c.consult("p.p(1).p(1,2).p(1,2,3).p(2).q(1).", 6).told(1, 5).faults("p(1,2,3,4).", 7, 7);
            int[] first = {0, 1, 2, 3, 1, 5};
            for (int i = 0; i < first.length; i++) {
                c.clause(i, 3, first[i]);
            }
            String[] goals = {"p.", "p(1).", "p(1,X).", "p(1,X,Y)."};
            for (int i = 0; i < goals.length; i++) {
                c.ask(goals[i], 1).run(1, 2).state(9, 1).clause(i, 7, 1).run(1, 3);
            }
        });
        Sentences.test(PREDICATES, "These predicates are built in: true, fail and cut without arguments, call and not with 1 argument,"
                + " same, less and is with 2 arguments.", c -> {
            c.consult("p:-true,fail,cut,call(a),not(a).", 1).consult("p:-same(X,1),less(1,2),is(X,1).", 1).told(2, 1);
            String[] heads = {"true", "fail", "cut", "call(X)", "not(X)", "same(X,Y)", "less(X,Y)", "is(X,Y)"};
            int[] places = {0, 0, 0, 6, 5, 8, 8, 6};
            for (int i = 0; i < heads.length; i++) {
                c.faults(heads[i] + ".", places[i], NONE);
            }
            c.ask("true,not(fail),call(cut),same(X,1),is(2,add(X,1)).", 5).run(300, 2).state(1, 6).state(9, 0);
            c.ask("less(1,2).", 1).run(1, 2).state(9, 0).ask("less(2,1).", 1).run(1, 3);
        });
        Sentences.test(PREDICATES, "All others are user predicates; a name can be used with several numbers of arguments.", c -> {
            String[] heads = {"true(1)", "true(1,2)", "fail(1)", "cut(1)", "cut(1,2,3)", "call", "call(1,2)", "call(1,2,3)", "not",
                "not(1,2)", "same", "same(1)", "same(1,2,3)", "less(1)", "less(1,2,3)", "is", "is(1)", "is(1,2,3)", "add(1,2)", "tru"};
            for (int i = 0; i < heads.length; i++) {
                c.faults(heads[i] + ".", NONE, NONE).consult(heads[i] + ".", 1).told(1, i + 1);
            }
            for (int i = 0; i < heads.length; i++) {
                c.ask(heads[i] + ".", 1).run(1, 2).states(2, 1, 1, 0, 0, 0, 0, 0, 0, 1).clause(i, 7, 1);
                c.ask("call(" + heads[i] + ").", 1).run(1, 2).clause(i, 7, 1);
            }
        });
    }

    private static void clauses() {
        Sentences.test(CLAUSES, "A clause consists of a head, whose predicate is a user predicate, and a body of 0 to 5 goals.", c -> {
            c.consult("p.", 1).consult("p:-a.", 1).consult("p:-a,b,c,d,e.", 1).clause(0, 0, 0).clause(1, 0, 1).clause(2, 0, 5);
            c.consult("p:-a,b,c,d,e,f.", STATE).consult("p:-.", STATE).consult("true:-a.", STATE).consult("call(a):-a.", STATE);
            c.consult("true(a):-a.", 1).told(0, 4);
        });
        Sentences.test(CLAUSES, "Its variables belong to this clause only.", c -> {
            c.consult("e(X,X).p(X,Y):-e(Y,1),e(X,2).n([X|Y],X):-e(X,Y).n(X,Y):-n([X|X],Y).", 4);
            c.ask("e(X,1),e(Y,2).", 2).run(300, 2).value(0, "1").value(1, "2");
            c.ask("p(Y,X).", 1).run(300, 2).value(0, "2").value(1, "1");
            c.ask("n(X,Y).", 1).run(300, 2).value(0, "[_0|_0]").value(1, "_0").run(4, 2).value(0, "_0").value(1, "_0");
            c.listing(0, "e(_0,_0).").listing(1, "p(_0,_1):-e(_1,1),e(_0,2).");
        });
        Sentences.test(CLAUSES, "A program is a list of at most 20 clauses, numbered from 0", c -> {
            c.consult("a.".repeat(19), 19).clause(18, 0, 0).clause(19, 0, BAD).consult("b.c.", STATE).told(0, 19);
            c.consult("b.", 1).told(0, 20).clause(19, 0, 0).clause(20, 0, BAD).clause(0, 0, 0).clause(-1, 0, BAD);
            c.consult("c.", STATE).consult("", 0).told(0, 20).retract(0, 19).consult("c.", 1).told(0, 20);
            c.listing(18, "b.").listing(19, "c.");
        });
        Sentences.test(CLAUSES, "the clauses of a predicate are those whose heads have this predicate, in the order of their numbers", c -> {
            c.consult("p(1).q(2).p(3).p(4,5).p(6).", 5).clause(4, 3, 0).clause(3, 3, 3);
            c.ask("p(X).", 1).run(1, 2).value(0, "1").run(1, 2).value(0, "3").run(1, 2).value(0, "6").run(1, 3);
            c.move(4, 0, 0).ask("p(X).", 1).run(1, 2).value(0, "6").run(1, 2).value(0, "1").run(1, 2).value(0, "3").run(1, 3);
        });
        Sentences.test(CLAUSES, "A query consists of 1 to 5 goals.", c -> {
            c.ask("", STATE).ask(".", STATE).ask("a.", 1).state(4, 1).ask("a,b,c,d,e.", 5).state(4, 5);
            c.ask("a,b,c,d,e,f.", STATE).state(4, 5);
        });
    }
}

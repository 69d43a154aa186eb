/** Terms as deep and as large as 300 inferences can make them, and all maxima at once. */
public final class StressTest {
    public static void main(String[] args) {
        sharedTermsAreUnified();
        sharedTermsOfOtherShapeAreUnified();
        sharedTermsThatDiffer();
        sharedTermsAreSearchedForLoops();
        sharedTermsAreEvaluated();
        deepTerms();
        longLists();
        longChainsOfVariables();
        deepCalls();
        manyFramesAndChoices();
        manyBarriers();
        fullProgram();
        manyTriesOfLargeTerms();
        loopsAfterManyBindings();
        Checks.finish("StressTest");
    }

    /** Two terms of 2 to the power of 60 parts each, and variables that become equal in them. */
    private static void sharedTermsAreUnified() {
        Checks c = new Checks("shared terms");
        c.consult("a(0,X,Y):-same(X,Y).a(N,X,Y):-less(0,N),is(M,sub(N,1)),a(M,f(X,X),f(Y,Y)).", 2);
        c.ask("a(60,P,Q).", 1).run(300, 2).due("variable(1, 3)", c.m.variable(1, 3), 0);
        c.ask("a(60,P,1).", 1).run(300, 2).value(0, "1");
        c.ask("a(60,g(P,2),g(1,Q)).", 1).run(300, 2).value(0, "1").value(1, "2").state(1, 182);
    }

    /** The same parts come together by different ways: variables on one side, compounds on the other. */
    private static void sharedTermsOfOtherShapeAreUnified() {
        Checks c = new Checks("shared terms of other shape");
        c.consult("a(0,X,Y):-same(X,Y).a(N,X,Y):-less(0,N),is(M,sub(N,1)),b(M,X,f(Y)).b(M,Z,U):-a(M,k(f(Z),f(Z)),k(U,U)).", 3);
        c.ask("a(50,P,Q).", 1).run(300, 2).due("variable(1, 3)", c.m.variable(1, 3), 0);
        c.ask("a(50,3,Q).", 1).run(300, 2).value(0, "3");
        c.ask("a(50,3,4).", 1).run(300, 3);
    }

    private static void sharedTermsThatDiffer() {
        Checks c = new Checks("shared terms that differ");
        c.consult("a(0,X,Y):-not(same(X,Y)).a(N,X,Y):-less(0,N),is(M,sub(N,1)),a(M,f(X,X),f(Y,Y)).", 2);
        c.ask("a(60,1,2).", 1).run(300, 2);
        c.ask("a(60,P,g(P)).", 1).run(300, 2);
        c.ask("a(60,P,Q).", 1).run(300, 3);
    }

    private static void sharedTermsAreSearchedForLoops() {
        Checks c = new Checks("loops in shared terms");
        c.consult("a(0,X,Y):-same(X,Y).a(N,X,Y):-less(0,N),is(M,sub(N,1)),b(M,[X|X],Y).", 2);
        c.consult("b(M,[U|V],Y):-a(M,f(U,V),Y).", 1);
        c.ask("a(70,P,Q).", 1).run(300, 2).due("variable(1, 1)", c.m.variable(1, 1), 4);
        c.ask("a(70,P,P).", 1).run(300, 3);
        c.ask("a(70,P,[P]).", 1).run(300, 3);
    }

    private static void sharedTermsAreEvaluated() {
        Checks c = new Checks("values of shared terms");
        c.consult("a(0,X,Y):-is(Y,X).a(N,X,Y):-less(0,N),is(M,sub(N,1)),b(M,[X|X],Y).b(M,[U|V],Y):-a(M,add(U,V),Y).", 3);
        c.ask("a(10,3,Y).", 1).run(300, 2).value(0, "3072");
        c.ask("a(30,3,Y).", 1).run(300, 2).value(0, "-1073741824");
        c.ask("a(70,3,Y).", 1).run(300, 2).value(0, "0");
        c.ask("a(70,x,Y).", 1).run(300, 4).state(10, 2);
        c.ask("a(70,Z,Y).", 1).run(300, 4).state(10, 2);
    }

    private static void deepTerms() {
        Checks c = new Checks("deep terms");
        String brackets = "[".repeat(40) + "X" + "]".repeat(40);
        c.consult("p(X):-q,p(" + brackets + ").", 1).consult("q.r(X):-r(f(f(f(f(f(f(f(f(f(f(f(f(X))))))))))))).", 2);
        c.ask("p(X).", 1).run(298, 1).goal("p(" + "[".repeat(118)).state(1, 298).run(2, 4);
        c.ask("r(X).", 1).run(299, 1).goal("r(" + "f(".repeat(59)).run(1, 4);
        Checks d = new Checks("deep terms that are unified");
        d.consult("p(0,X,Y):-same(X,Y).p(N,X,Y):-less(0,N),is(M,sub(N,1)),p(M,[[[[[[[[X]]]]]]]],[[[[[[[[Y]]]]]]]]).", 2);
        d.ask("p(98,A,B).", 1).run(300, 2).due("variable(1, 3)", d.m.variable(1, 3), 0);
        d.ask("p(98,A,[A]).", 1).run(300, 3);
        d.ask("p(98,a,b).", 1).run(300, 3);
        Checks e = new Checks("deep terms that are evaluated");
        e.consult("p(0,X,Y):-is(Y,X).p(N,X,Y):-less(0,N),is(M,sub(N,1)),p(M,add(1,add(1,add(1,add(1,X)))),Y).", 2);
        e.ask("p(98,0,Y).", 1).run(300, 2).value(0, "392");
        e.retractAll().consult("p(0,X,Y):-is(Y,X).p(N,X,Y):-less(0,N),is(M,sub(N,1)),p(M,sub(sub(sub(X,1),1),N),Y).", 2);
        e.ask("p(98,0,Y).", 1).run(300, 2).value(0, Integer.toString(-196 - 99 * 49));
    }

    private static void longLists() {
        Checks c = new Checks("long lists");
        String items = "A,".repeat(30) + "A";
        c.consult("p(0,L,L).p(N,T,L):-less(0,N),is(M,sub(N,1)),p(M,[" + items + "|T],L).", 2);
        c.ask("p(90,[],L),p(90,[],L).", 2).run(300, 4).state(10, 3);
        c.ask("p(49,[],L),p(49,[],L).", 2).run(300, 2).value(0, ("[" + "_0,".repeat(31) + "_1,".repeat(31)).substring(0, 120));
        c.ask("p(49,[],L),p(49,[1],L).", 2).run(300, 3).state(1, 298);
        c.consult("e(L,L).", 1);
        c.ask("p(48,[],L),p(48,K,M),e(L,M),e(M,L).", 4).run(300, 2).value(1, "[]");
    }

    private static void longChainsOfVariables() {
        Checks c = new Checks("chains of variables");
        c.consult("p(X):-p(Y),same(X,Y).p(X).q(X,X):-q(X,Y).q(1,1).", 4);
        c.ask("q(A,B).", 1).run(299, 1).due("variable(1, 3)", c.m.variable(1, 3), 0);
        c.run(300, 4);
        c.due("move(0, 1)", c.m.move(0, 1), 1);
        c.ask("p(X).", 1);
        for (int i = 0; i < 24; i++) {
            c.run(300, 2).value(0, "_0");
        }
        c.run(300, 4);
    }

    private static void deepCalls() {
        Checks c = new Checks("deep calls");
        c.consult("p(0,G):-call(G).p(N,G):-less(0,N),is(M,sub(N,1)),p(M,call(call(call(call(G))))).q(1).q(2).", 4);
        c.ask("p(98,q(X)).", 1).run(300, 2).value(0, "1").state(1, 296).run(1, 2).value(0, "2");
        c.ask("p(98,X).", 1).run(300, 4).state(10, 1);
        c.ask("p(98,cut).", 1).run(300, 2).state(6, 1);
        c.ask("call(call(call(call(call(call(call(call(call(call(call(call(call(call(call(true))))))))))))))).", 1).run(1, 2);
    }

    private static void manyFramesAndChoices() {
        Checks c = new Checks("many frames and choice points");
        c.consult("p:-p,q.p:-q.", 2);
        c.ask("p.", 1).run(299, 1).states(1, 299, 0, 299, 300, 0, 299, 0, 0, 299, 0, 298, 298);
        c.due("frame(298, 2)", c.m.frame(298, 2), 0);
        c.due("frame(299, 0)", c.m.frame(299, 0), LogicMachine.BAD);
        c.due("choice(298, 2)", c.m.choice(298, 2), 0);
        c.due("choice(0, 2)", c.m.choice(0, 2), 298);
        c.run(1, 4).states(4, 300, 0, 0, 0, 0, 0, 0, 0, 300, 3, 299, 299);
        Checks d = new Checks("a full trail");
        d.consult("p(A,B,C):-p([A|D],[B|E],[C|F]).p(A,B,C).", 2);
        d.ask("p([X|A],[Y|B],[Z|C]),same(X,Y).", 2).run(299, 1).state(6, 299);
        d.run(1, 4).state(8, 0);
    }

    private static void manyBarriers() {
        Checks c = new Checks("many barriers");
        c.consult("p:-not(p).q(X):-not(not(q(X))).", 2);
        c.ask("p.", 1).run(299, 1).state(7, 149).state(3, 150).run(1, 4).state(10, 3);
        c.ask("q(X).", 1).run(299, 1).state(7, 199).run(1, 4).state(10, 3);
    }

    private static void fullProgram() {
        Checks c = new Checks("a full program");
        for (int i = 0; i < 20; i++) {
            c.consult("p(" + i + ",[A,B,C,D,E,F,G,H,A,B,C,D,E,F,G,H,A,B,C,D,E,F]):-q(A),q(B),q(C),q(D),q(E).", 1);
        }
        c.due("overlaps(0)", c.m.overlaps(0), 0);
        c.due("told(3)", c.m.told(3), 6);
        c.ask("p(19,X).", 1).run(1, 1).state(9, 1);
        c.ask("p(N,X).", 1).run(1, 1).state(6, 1).due("choice(0, 1)", c.m.choice(0, 1), 19);
        c.run(300, 3).state(9, 20).state(1, 21);
        for (int i = 0; i < 512; i++) {
            c.m.ask();
            c.m.run(300);
        }
        c.state(0, 3);
    }

    /** Loops are found however many variables were bound to compounds before. */
    private static void loopsAfterManyBindings() {
        Checks c = new Checks("loops after many bindings");
        c.consult("p(0).p(N):-less(0,N),same(f(A,B,C),f([B],[C],[D])),is(M,sub(N,1)),p(M).", 2);
        c.ask("p(70),same(X,f(X)).", 2).run(300, 3).state(1, 283);
        c.ask("p(70),same(f(X,Y),f(g(Y),g(X))).", 2).run(300, 3).state(1, 283);
        c.ask("p(70),not(same(X,f(X))).", 2).run(300, 2);
    }

    /** Each of 20 clauses fails only after large lists have been compared. */
    private static void manyTriesOfLargeTerms() {
        Checks c = new Checks("many tries of large terms");
        String items = "A,".repeat(12) + "A";
        c.consult("p(0,T,S):-q(T,S).p(N,T,S):-less(0,N),is(M,sub(N,1)),p(M,[" + items + "|T],[" + items + "|S]).", 2);
        c.consult("q(X,X).".repeat(16), 16).consult("q(X,Y):-q(X,Y).", 1);
        c.ask("p(40,[1],[2]).", 1).run(300, 4).state(10, 3);
    }
}

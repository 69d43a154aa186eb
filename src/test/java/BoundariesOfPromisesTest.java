/** The boundary cases that the headings of the promises name, from Promise 1 to Promise 22. */
public final class BoundariesOfPromisesTest {
    private static final int BAD = Sentences.BAD, STATE = Sentences.STATE, FULL = Sentences.FULL, NONE = Sentences.NONE;
    private static final int LOW = Sentences.LOW, HIGH = Sentences.HIGH;

    private static final String[] PROMISES = {"", "a new object", "write", "wipe", "fault", "consult", "retract", "move", "undo", "told", "clause",
        "listing", "overlaps", "reaches", "ask", "run", "stop", "state", "variable", "value", "goal", "frame", "choice"};

    public static void main(String[] args) {
        all();
        Checks.finish("BoundariesOfPromisesTest");
    }

    static void all() {
        newObject();
        write();
        wipe();
        fault();
        consult();
        retract();
        move();
        undo();
        told();
        toldOfCalls();
        clauseCounts();
        clauseKinds();
        clauseTries();
        listing();
        overlaps();
        reaches();
        ask();
        run();
        runStates();
        stop();
        state();
        stateCounts();
        stateMaxima();
        variable();
        value();
        goal();
        frame();
        choice();
    }

    private static void promise(int number, String sentence, Sentences.Boundary boundary) {
        Sentences.test("promise " + number + ", " + PROMISES[number], sentence, boundary);
    }

    private static void newObject() {
        promise(1, "Creates a machine without clauses and without a query, with an empty text; nothing can be undone.", c -> {
            c.told(0, 0).told(1, 0).told(2, 0).told(3, 0).told(4, 0).states(0, 0, 0, 0, 0, 0, 0, 0, 0, 0, 0, 0, 0);
            c.undo(STATE).stop(STATE).run(1, STATE).clause(0, 0, BAD).fault(0, NONE).fault(1, 0).goal("");
            c.variable(0, 0, BAD).frame(0, BAD).choice(0, BAD);
            c.due("listing(0, 0)", c.m.listing(0, 0), BAD);
            c.due("wipe()", c.m.wipe(), 0);
        });
        promise(1, "An object is used for at most 512 calls after it has been made", c -> {
            LogicMachine m = new LogicMachine();
            String text = "p:-p.";
            for (int i = 0; i < text.length(); i++) {
                m.write(text.charAt(i));
            }
            int calls = text.length();
            c.due("the changes before", m.consult() + m.consult() + m.wipe() + m.write('p') + m.write('.'), 1 + 1 + 5 + 1 + 2);
            calls += 5;
            for (; calls < 510; calls += 2) {
                c.due("ask()", m.ask(), 1);
                c.due("run(300)", m.run(300), 4);
            }
            calls += 2;
            c.due("the 511th call, state(9)", m.state(9), 300);
            c.due("the 512th call, told(0)", m.told(0), 2);
            c.due("the calls", calls, 512);
        });
        promise(1, "public static final int BAD = -1, STATE = -2, FULL = -3, NONE = -9;", c -> {
            c.due("BAD", LogicMachine.BAD, -1);
            c.due("STATE", LogicMachine.STATE, -2);
            c.due("FULL", LogicMachine.FULL, -3);
            c.due("NONE", LogicMachine.NONE, -9);
        });
    }

    private static void write() {
        promise(2, "- `c`: its code, 32 to 126 Returns the new length of the text; BAD if c is out of range", c -> {
            c.due("write(32)", c.m.write(32), 1);
            c.due("write(126)", c.m.write(126), 2);
            for (int wrong : new int[] {31, 127, -1, 0, 10, 128, 255, 256 + 97, 65536 + 97, LOW, LOW + 97, HIGH}) {
                c.due("write(" + wrong + ")", c.m.write(wrong), BAD);
            }
            for (int code = 33; code <= 125; code++) {
                c.due("write(" + code + ")", c.m.write(code), code - 30);
            }
            c.told(4, 95).fault(0, 1);
        });
        promise(2, "FULL if the text has 120 characters already", c -> {
            for (int i = 1; i <= 120; i++) {
                c.due("write(97)", c.m.write(97), i);
            }
            c.due("write(97)", c.m.write(97), FULL);
            c.due("write(126)", c.m.write(126), FULL);
            c.told(4, 120);
            c.due("wipe()", c.m.wipe(), 120);
            c.due("write(97)", c.m.write(97), 1);
        });
    }

    private static void wipe() {
        promise(3, "Empties the text. Returns the length that it had.", c -> {
            c.due("wipe()", c.m.wipe(), 0);
            c.due("write(112)", c.m.write(112), 1);
            c.due("wipe()", c.m.wipe(), 1);
            c.due("wipe()", c.m.wipe(), 0);
            c.type("a".repeat(120)).due("wipe()", c.m.wipe(), 120);
            c.told(4, 0).fault(0, NONE).fault(1, 0).type("p.").fault(0, NONE).due("consult()", c.m.consult(), 1);
            c.due("wipe()", c.m.wipe(), 2);
            c.told(0, 1).listing(0, "p.").ask("p.", 1).due("wipe()", c.m.wipe(), 2);
            c.state(0, 1).run(1, 2);
        });
    }

    private static void fault() {
        promise(4, "`how`: 0 as clauses that are appended to the present program, 1 as a query", c -> {
            c.faults("p:-q.", NONE, 1).faults("p,q.", 1, NONE).faults("p.", NONE, NONE).faults("p.q.", NONE, 2).faults("", NONE, 0);
            c.consult("a.".repeat(20), 20).faults("p.", 0, NONE).faults("", NONE, 0).undo(0).faults("p.", NONE, NONE);
        });
        promise(4, "Returns the fault; NONE if there is no fault; BAD if how is out of range.", c -> {
            c.type("p.").fault(0, NONE).fault(1, NONE).type("p,").fault(0, 1).fault(1, 2).type(")").fault(0, 0).fault(1, 0);
            for (int wrong : new int[] {-1, 2, -9, LOW, HIGH}) {
                c.fault(wrong, BAD);
            }
        });
    }

    private static void consult() {
        promise(5, "Reads the text as clauses and appends them to the program. This is a change of the program: there is no query then. The text"
                + " stays.", c -> {
            c.ask("true.", 1).consult("p(1).p(2).", 2).state(0, 0).told(4, 10).told(3, 1).due("consult()", c.m.consult(), 2);
            c.told(0, 4).told(4, 10).listing(0, "p(1).").listing(2, "p(1).").listing(3, "p(2).");
            c.ask("p(X).", 1).run(1, 2).consult("", 0).state(0, 0).run(1, STATE).told(3, 3).told(0, 4);
        });
        promise(5, "Returns how many clauses are appended; STATE if the text has a fault.", c -> {
            c.consult("", 0).consult("  ", 0).consult("p.", 1).consult("p.q.r.", 3).consult("p", STATE).consult("p.q", STATE).told(0, 4);
            c.ask("p.", 1).consult("p:-.", STATE).state(0, 1).told(0, 4).told(3, 4).consult("a.".repeat(17), STATE).state(0, 1);
            c.consult("a.".repeat(16), 16).state(0, 0).told(0, 20).consult("a.", STATE).consult("", 0).told(0, 20);
        });
    }

    private static void retract() {
        promise(6, "Removes a clause; the numbers of later ones decrease by 1. This is a change of the program: there is no query then.", c -> {
            c.consult("p(0).p(1).p(2).p(3).", 4).ask("p(X).", 1).retract(1, 3).state(0, 0).listing(0, "p(0).").listing(1, "p(2).");
            c.listing(2, "p(3).").clause(3, 0, BAD).told(3, 2).ask("p(X).", 1).run(1, 2).retract(2, 2).state(0, 0).listing(1, "p(2).");
            c.retract(0, 1).listing(0, "p(2).").retract(0, 0).clause(0, 0, BAD).told(3, 5);
        });
        promise(6, "Returns the number of clauses then; BAD if there is no such clause.", c -> {
            c.retract(0, BAD).retract(-1, BAD).told(3, 0).consult("a.".repeat(20), 20).ask("a.", 1);
            c.retract(20, BAD).retract(-1, BAD).retract(LOW, BAD).retract(HIGH, BAD).retract(32, BAD).state(0, 1).told(3, 1);
            c.retract(19, 19).retract(19, BAD).retract(18, 18);
            for (int left = 17; left >= 0; left--) {
                c.retract(0, left);
            }
            c.retract(0, BAD).told(0, 0);
        });
    }

    private static void move() {
        promise(7, "Moves a clause to another place; the order of the others stays the same. This is a change of the program: there is no query"
                + " then.", c -> {
            c.consult("p(0).p(1).p(2).p(3).", 4);
            int[][] moves = {{0, 3}, {3, 0}, {1, 2}, {2, 1}, {0, 1}, {3, 3}, {0, 0}};
            int[][] orders = {{1, 2, 3, 0}, {0, 1, 2, 3}, {0, 2, 1, 3}, {0, 1, 2, 3}, {1, 0, 2, 3}, {1, 0, 2, 3}, {1, 0, 2, 3}};
            for (int i = 0; i < moves.length; i++) {
                c.ask("p(X).", 1).move(moves[i][0], moves[i][1], moves[i][1]).state(0, 0);
                for (int place = 0; place < 4; place++) {
                    c.listing(place, "p(" + orders[i][place] + ").");
                }
            }
            c.told(3, 6).undo(5).undo(4).listing(0, "p(1).").undo(3).listing(0, "p(0).");
        });
        promise(7, "Returns to; BAD if there is no such clause, or to is not the number of a clause.", c -> {
            c.move(0, 0, BAD).consult("a.".repeat(19), 19).consult("b.", 1).ask("a.", 1);
            int[] wrong = {-1, 20, 21, 32, LOW, HIGH};
            for (int w : wrong) {
                c.move(w, 0, BAD).move(0, w, BAD).move(w, w, BAD);
            }
            c.state(0, 1).told(3, 2).move(19, 0, 0).listing(0, "b.").move(0, 19, 19).listing(19, "b.").move(7, 7, 7).told(3, 5);
            c.retract(19, 19).move(19, 0, BAD).move(0, 19, BAD).move(18, 0, 0).move(0, 18, 18);
        });
    }

    private static void undo() {
        promise(8, "A history of at most 6 states is kept: a change that returns no error code records the program before it; if there are more than"
                + " 6, the oldest one is dropped; undo() removes the latest state and restores it. There is no query then.", c -> {
            for (int i = 1; i <= 6; i++) {
                c.consult("p(" + i + ").", 1).told(3, i);
            }
            for (int i = 5; i >= 0; i--) {
                c.ask("p(X).", 1).undo(i).state(0, 0).told(0, i);
            }
            c.undo(STATE);
            for (int i = 1; i <= 7; i++) {
                c.consult("p(" + i + ").", 1).told(3, Math.min(i, 6));
            }
            // error codes, and what is no change, record nothing
            c.retract(7, BAD).move(0, 7, BAD).consult("p", STATE).ask("p(X).", 1).run(1, 2).stop(2).told(3, 6);
            for (int i = 5; i >= 0; i--) {
                c.undo(i).told(0, i + 1);
            }
            c.undo(STATE).told(0, 1).listing(0, "p(1).").consult("", 0).retract(0, 0).undo(1).listing(0, "p(1).").undo(0).undo(STATE).told(0, 1);
        });
        promise(8, "Returns how many changes can still be undone; STATE if there is none.", c -> {
            c.undo(STATE).consult("", 0).undo(0).undo(STATE).consult("a.b.", 2).move(0, 1, 1).retract(0, 1).told(3, 3).ask("a.", 1);
            c.undo(2).told(3, 2).state(0, 0).listing(0, "b.").listing(1, "a.").undo(1).listing(0, "a.").undo(0).told(0, 0);
            c.ask("true.", 1).undo(STATE).state(0, 1);
        });
    }

    private static void told() {
        promise(9, "`what`: 0 clauses; 1 different user predicates that have clauses;", c -> {
            c.told(0, 0).told(1, 0).consult("p.", 1).told(0, 1).told(1, 1).consult("p.p.", 2).told(0, 3).told(1, 1);
            c.consult("p(1).p(2).p(1,2).q.", 4).told(0, 7).told(1, 4).retract(6, 6).told(1, 3).consult("call:-p.", 1).told(1, 4);
            for (int i = c.m.told(0); i < 20; i++) {
                c.consult("p" + i + ".", 1);
            }
            c.told(0, 20).told(1, 17);
        });
        promise(9, "3 changes that can be undone; 4 characters of the text", c -> {
            c.told(3, 0).told(4, 0).consult("p.", 1).told(3, 1).told(4, 2).type("a".repeat(120)).told(4, 120).consult("", 0).told(3, 2).told(4, 0);
            for (int i = 3; i <= 8; i++) {
                c.consult(" ".repeat(i), 0).told(3, Math.min(i, 6)).told(4, i);
            }
            c.undo(5).told(3, 5).told(4, 8);
        });
        promise(9, "Returns the number; BAD if what is out of range.", c -> {
            c.consult("p:-q.", 1).told(0, 1).told(1, 1).told(2, 1).told(3, 1).told(4, 5);
            for (int wrong : new int[] {-1, 5, 6, LOW, HIGH}) {
                c.told(wrong, BAD);
            }
        });
    }

    private static void toldOfCalls() {
        promise(9, "2 different user predicates of goals that have no clauses, where the goals are those of all bodies, and if such a goal is"
                + " call(G) or not(G) and G is an atom or a compound, but no list, also G, and so on", c -> {
            c.told(2, 0).consult("p.", 1).told(2, 0).consult("p:-p.", 1).told(2, 0).consult("p:-q,q,p.", 1).told(2, 1);
            c.consult("p:-q(1),q(1,2),q.", 1).told(2, 3).consult("q.", 1).told(2, 2).undo(4).told(2, 3);
            c.consult("r:-q.", 1).told(2, 3).consult("r:-call(a),not(b(1)).", 1).told(2, 5).consult("r:-call(not(call(call(d(1,2))))).", 1).told(2, 6);
            c.consult("r:-call(X),not(1),call([]),not([a]),call([a|b]).", 1).told(2, 6).consult("r:-true,fail,cut,same(1,1),is(1,1).", 1).told(2, 6);
            c.consult("r:-call(true),not(cut),call(less(1,2)),not(p).", 1).told(2, 6).consult("r:-call(call(X)),e(call(f)),same(g,h).", 1).told(2, 7);
            c.consult("call:-call(a,b),call.", 1).told(2, 8).consult("r:-call(not),not(is(1)).", 1).told(2, 10);
            c.ask("zzz,yyy.", 2).told(2, 10);
            for (int i = c.m.told(0); i < 20; i++) {
                c.consult("r:-m" + i + ",m" + i + ".", 1);
            }
            c.told(0, 20).told(1, 3).told(2, 17);
        });
    }

    private static void clauseCounts() {
        promise(10, "`what`: 0 the number of goals of its body; 1 the number of its different variables; 2 the number of variables that occur only"
                + " once in it", c -> {
            c.consult("p.p:-a.p:-a,b,c,d,e.p(X).p(X,X).p(X,Y):-q(X,Z).", 6).consult("p([A,B,C,D,E,F,G,H]):-q(A,[B|C]).", 1);
            int[][] wanted = {{0, 0, 0}, {1, 0, 0}, {5, 0, 0}, {0, 1, 1}, {0, 1, 0}, {1, 3, 2}, {1, 8, 5}};
            for (int i = 0; i < wanted.length; i++) {
                for (int what = 0; what < 3; what++) {
                    c.clause(i, what, wanted[i][what]);
                }
            }
        });
        promise(10, "3 the first clause of its predicate", c -> {
            c.consult("p.q.p(1).q.p.p(X).p(1,2).q(1).", 8);
            int[] first = {0, 1, 2, 1, 0, 2, 6, 7};
            for (int i = 0; i < first.length; i++) {
                c.clause(i, 3, first[i]);
            }
            c.move(4, 1, 1).clause(1, 3, 0).clause(2, 3, 2).retract(0, 7).clause(0, 3, 0).clause(3, 3, 1);
        });
        promise(10, "Returns the property; BAD if there is no such clause or what is out of range.", c -> {
            c.clause(0, 0, BAD).clause(0, 6, BAD).consult("p.q.", 2).clause(0, 0, 0).clause(1, 7, 0);
            for (int wrong : new int[] {-1, 2, 20, 32, LOW, HIGH}) {
                c.clause(wrong, 0, BAD).clause(wrong, 6, BAD);
            }
            for (int wrong : new int[] {-1, 8, 9, LOW, HIGH}) {
                c.clause(0, wrong, BAD).clause(1, wrong, BAD);
            }
        });
    }

    private static void clauseKinds() {
        promise(10, "4 the kind of the first argument of its head: 0 there is none, 1 a variable, 2 an integer, 3 an atom, 4 a compound", c -> {
            c.consult("p.p(X).p(0).p(a).p([]).p(f(a)).p([a]).p(X,1).p(1,X).p(a,X,f(1)).p(f(X),a).p:-q(1).", 12);
            int[] kinds = {0, 1, 2, 3, 3, 4, 4, 1, 2, 3, 4, 0};
            for (int i = 0; i < kinds.length; i++) {
                c.clause(i, 4, kinds[i]);
            }
        });
        promise(10, "5 whether its last goal has the predicate of its head (1 or 0; 0 without a body)", c -> {
            c.consult("p.p:-p.p:-q.p:-q,p.p:-p,q.p:-p(1).p(1):-p.p(1):-p(X).", 8).consult("p:-call(p).p:-not(p).p(1,2):-p(2,1).", 3);
            int[] wanted = {0, 1, 0, 1, 0, 0, 0, 1, 0, 0, 1};
            for (int i = 0; i < wanted.length; i++) {
                c.clause(i, 5, wanted[i]);
            }
        });
    }

    private static void clauseTries() {
        promise(10, "6 how often it was tried for the present query; 7 how often its head was unified successfully then (6 and 7: 0 if there is no"
                + " query)", c -> {
            c.consult("p(1,a).p(2,b).p(3,a).q(X):-p(Y,X),q(X).", 4).clause(0, 6, 0).clause(0, 7, 0);
            c.ask("p(X,a).", 1).clause(0, 6, 0).run(1, 2).clause(0, 6, 1).clause(0, 7, 1).clause(1, 6, 0).clause(1, 7, 0);
            c.run(1, 2).clause(1, 6, 1).clause(1, 7, 0).clause(2, 6, 1).clause(2, 7, 1).clause(3, 6, 0).run(1, 3);
            c.clause(0, 6, 1).clause(1, 6, 1).clause(2, 7, 1).stop(3).clause(0, 6, 0).clause(0, 7, 0).clause(2, 7, 0);
            c.ask("q(a).", 1).run(299, 1).clause(3, 6, 150).clause(3, 7, 150).clause(0, 6, 149).clause(1, 6, 0).run(1, 4).clause(0, 6, 150);
            c.clause(0, 7, 150).ask("q(b).", 1).clause(3, 6, 0).clause(3, 7, 0).run(2, 1).clause(0, 6, 1).clause(0, 7, 0).clause(1, 7, 1);
            c.consult("", 0).clause(3, 6, 0).clause(1, 7, 0).ask("q(b).", 1).run(2, 1).undo(1).clause(3, 6, 0).clause(1, 7, 0);
        });
    }

    private static void listing() {
        promise(11, "its head, and if it has a body, the characters :- and its goals, separated by commas; at the end a point", c -> {
            c.consult("p.p(X):-q.p:-q(1),r,s(a),t,u.", 3).listing(0, "p.").listing(1, "p(_0):-q.").listing(2, "p:-q(1),r,s(a),t,u.");
        });
        promise(11, "where the variables of the clause have no bindings; of the whole text only the first 120 characters are kept", c -> {
            c.consult("p(X,Y,X):-q(Y).q(1).", 2).ask("same(Z,3),p(2,X,Y).", 2).run(2, 1).listing(0, "p(_0,_1,_0):-q(_1).");
            c.value(0, "3").value(1, "_0").value(2, "2").run(1, 2).value(0, "3").value(1, "1").value(2, "2");
            c.listing(0, "p(_0,_1,_0):-q(_1).").consult("p([" + "a,".repeat(53) + "a,X]):-q.", 1);
            c.listing(2, "p([" + "a,".repeat(53) + "a,_0]):-q.").consult("p([" + "a,".repeat(53) + "a,X,Y]).", 1);
            c.listing(3, "p([" + "a,".repeat(53) + "a,_0,_1]).").consult("p([" + "a,".repeat(53) + "a,X]):-rs.", 1);
            c.listing(4, "p([" + "a,".repeat(53) + "a,_0]):-rs.").consult("p([" + "a,".repeat(53) + "X,Y]):-r.", 1);
            c.listing(5, "p([" + "a,".repeat(53) + "_0,_1]):-r.").consult("p([" + "a,".repeat(53) + "X,Y]):-rs.", 1);
            c.listing(6, "p([" + "a,".repeat(53) + "_0,_1]):-rs");
        });
        promise(11, "Returns its code; NONE if the text has not so many characters; BAD if there is no such clause or k is negative.", c -> {
            c.consult("pq(1).r.", 2);
            int[] codes = {'p', 'q', '(', '1', ')', '.', NONE, NONE};
            for (int k = 0; k < codes.length; k++) {
                c.due("listing(0, " + k + ")", c.m.listing(0, k), codes[k]);
            }
            c.due("listing(1, 1)", c.m.listing(1, 1), '.');
            c.due("listing(1, 2)", c.m.listing(1, 2), NONE);
            c.due("listing(1, highest)", c.m.listing(1, HIGH), NONE);
            for (int wrong : new int[] {-1, 2, 20, LOW, HIGH}) {
                c.due("listing(" + wrong + ", 0)", c.m.listing(wrong, 0), BAD);
                c.due("listing(" + wrong + ", -1)", c.m.listing(wrong, -1), BAD);
            }
            c.due("listing(0, -1)", c.m.listing(0, -1), BAD);
            c.due("listing(0, lowest)", c.m.listing(0, LOW), BAD);
        });
    }

    private static void overlaps() {
        promise(12, "at least one of both heads has a variable as its first argument, or the predicate has no arguments, or both first arguments are"
                + " the same integer or the same atom, or compounds with the same name and number of arguments", c -> {
            String[] pairs = {"p. p.", "p(X). p(Y).", "p(X). p(1).", "p(a). p(X).", "p(X). p([]).", "p(1). p(01).", "p(a). p(a).",
                "p([]). p([]).", "p(f(1)). p(f(2)).", "p(f(X,Y)). p(f(1,2)).", "p([1]). p([X|Y]).", "p(1,a). p(1,b).", "p(X,1,1). p(2,2,2)."};
            String[] others = {"p(1). p(2).", "p(a). p(b).", "p(1). p(a).", "p(97). p(a).", "p(a). p(388).", "p(0). p([]).", "p(a). p([]).", "p(f(1)). p(g(1)).",
                "p(f(1)). p(f(1,2)).", "p(f). p(f(1)).", "p([]). p([X]).", "p([1]). p(f(1,2)).", "p(1). p(f(1)).", "p(1,X). p(2,X).",
                "p(1). p(1,2).", "p. p(1).", "p(1). q(1)."};
            for (String text : pairs) {
                c.consult(text, 2).overlaps(0, 1).overlaps(1, 1).undo(0);
            }
            for (String text : others) {
                c.consult(text, 2).overlaps(0, 0).overlaps(1, 0).undo(0);
            }
        });
        promise(12, "Returns the number of pairs of different clauses of the predicate of this clause that can match the same goal whose first"
                + " argument is not a variable", c -> {
            c.consult("p.", 1).overlaps(0, 0).consult("p.", 1).overlaps(0, 1).consult("p.", 1).overlaps(0, 3).consult("a.".repeat(17), 17);
            c.overlaps(2, 3).overlaps(3, 136).overlaps(19, 136).undo(3).consult("p.".repeat(17), 17).overlaps(19, 190).undo(3).undo(2).undo(1).undo(0);
            c.consult("p(1).p(2).p(X).p(1).p(Y).q(1).q(1).p(1,1).", 8).overlaps(0, 8).overlaps(2, 8).overlaps(4, 8).overlaps(5, 1).overlaps(7, 0);
        });
        promise(12, "BAD if there is no such clause", c -> {
            c.overlaps(0, BAD).consult("p.p.", 2).overlaps(1, 1).overlaps(2, BAD).overlaps(-1, BAD).overlaps(LOW, BAD).overlaps(HIGH, BAD);
            c.overlaps(32, BAD).retract(1, 1).overlaps(1, BAD).overlaps(0, 0);
        });
    }

    private static void reaches() {
        promise(13, "`d`: a clause of the other predicate, possibly the same", c -> {
            c.consult("a:-a.b.d:-e.e:-d.f:-f(1).f(1):-f(2).", 6).reaches(0, 0, 1).reaches(1, 1, NONE).reaches(2, 2, 2).reaches(2, 3, 1);
            c.reaches(4, 4, NONE).reaches(4, 5, 1).reaches(5, 5, 1).reaches(5, 4, NONE).consult("b:-b.", 1).reaches(1, 1, 1).reaches(1, 6, 1);
        });
        promise(13, "Returns the smallest number of steps, 1 or more; NONE if there is none; BAD if there is no such clause.", c -> {
            c.reaches(0, 0, BAD).consult("a:-b.b:-d,not(e).d:-call(e).e:-call(call(f(X))).f(1):-call([]),X1.", STATE);
            c.consult("a:-b.b:-d,not(e).d:-call(e).e:-call(call(f(X))).f(1):-call([a]).", 5);
            int[][] wanted = {{NONE, 1, 2, 2, 3}, {NONE, NONE, 1, 1, 2}, {NONE, NONE, NONE, 1, 2}, {NONE, NONE, NONE, NONE, 1},
                {NONE, NONE, NONE, NONE, NONE}};
            for (int i = 0; i < 5; i++) {
                for (int j = 0; j < 5; j++) {
                    c.reaches(i, j, wanted[i][j]);
                }
            }
            for (int wrong : new int[] {-1, 5, 32, LOW, HIGH}) {
                c.reaches(wrong, 0, BAD).reaches(0, wrong, BAD).reaches(wrong, wrong, BAD);
            }
            c.consult("b:-a.f(2):-a.", 2).reaches(0, 0, 2).reaches(5, 0, 1).reaches(4, 4, 4).reaches(3, 6, 1).retract(0, 6).reaches(0, 6, BAD);
        });
        promise(13, "or a chain of such steps", c -> {
            StringBuilder text = new StringBuilder();
            for (char name = 'a'; name < 't'; name++) {
                text.append(name).append(":-").append((char) (name + 1)).append('.');
            }
            c.consult(text + "t.", 20);
            for (int d = 1; d < 20; d++) {
                c.reaches(0, d, d).reaches(d, 0, NONE);
            }
            c.retract(19, 19).consult("t:-a.", 1).reaches(0, 0, 20).reaches(19, 18, 19).reaches(19, 19, 20).reaches(5, 4, 19);
        });
    }

    private static void ask() {
        promise(14, "Reads the text as a query, in place of the present one; its state is 1. The text stays.", c -> {
            c.consult("p(1).p(2).", 2).ask("p(X),p(Y).", 2).told(4, 10).run(2, 2).states(2, 2, 1).due("ask()", c.m.ask(), 2);
            c.states(1, 0, 0, 1, 2, 2, 0, 0, 0, 0, 0, 0, 0).told(4, 10).value(0, "_0").goal("p(_0)").clause(0, 6, 0).run(2, 2);
            c.ask("fail.", 1).state(0, 1).run(1, 3).ask("call(1).", 1).state(0, 1).run(1, 4).ask("true.", 1).states(1, 0, 0, 1, 1).state(10, 0);
            c.told(3, 1).told(0, 2);
        });
        promise(14, "Returns the number of its goals; STATE if the text has a fault.", c -> {
            c.ask("", STATE).state(0, 0).ask("a.", 1).ask("a,b.", 2).ask("a,b,c,d,e.", 5).ask("a,b,c,d,e,f.", STATE).state(4, 5);
            c.ask("a", STATE).ask("a:-b.", STATE).ask("a.b.", STATE).ask(" a .  ", 1).state(4, 1).ask(")", STATE).state(0, 1).run(1, 3);
            c.ask("X.", STATE).state(0, 3);
        });
    }

    private static void run() {
        promise(15, "`n`: the greatest number of inferences, 1 to 300", c -> {
            c.consult("l:-l.", 1).ask("l.", 1);
            for (int wrong : new int[] {0, -1, 301, 302, LOW, HIGH}) {
                c.run(wrong, BAD);
            }
            c.state(1, 0).run(1, 1).state(1, 1).run(298, 1).state(1, 299).run(301, BAD).run(0, BAD).state(1, 299);
            c.ask("l.", 1).run(300, 4).state(1, 300);
        });
        promise(15, "or until n inferences have been made by this call and another one would be necessary", c -> {
            c.consult("p(1).p(2).", 2).ask("true.", 1).run(1, 2).ask("true,true.", 2).run(1, 1).state(1, 1).run(1, 2).state(1, 2);
            c.ask("true,true,true.", 3).run(2, 1).state(1, 2).run(2, 2).state(1, 3).ask("true,true,true.", 3).run(3, 2);
            c.ask("fail.", 1).run(1, 3).ask("true,fail.", 2).run(1, 1).run(1, 3).ask("p(X),fail.", 2).run(2, 1).state(1, 2).value(0, "2").run(1, 3);
            c.ask("not(true),true.", 2).run(2, 3).ask("not(fail).", 1).run(2, 2).ask("not(fail),true.", 2).run(2, 1).goal("true").run(1, 2);
            c.ask("p(X),true.", 2).run(2, 2).run(1, 2).state(1, 3).value(0, "2").run(1, 3).state(1, 3).ask("p(X),true,true.", 3).run(3, 2).run(1, 1);
            c.state(1, 4).run(1, 2);
        });
    }

    private static void runStates() {
        promise(15, "Returns the state of the query then, 1 to 4; BAD if n is out of range; STATE if the state of the query is 0, 3 or 4.", c -> {
            c.run(1, STATE).run(300, STATE).run(0, BAD).run(301, BAD).ask("true,true.", 2).run(1, 1).run(1, 2).run(1, 3).run(1, STATE);
            c.run(300, STATE).run(0, BAD).ask("call(1).", 1).run(1, 4).run(1, STATE).run(301, BAD).state(0, 4).stop(4).run(1, STATE);
            c.ask("true.", 1).run(300, 2).run(300, 3);
        });
    }

    private static void stop() {
        promise(16, "Returns the state that it had, 1 to 4; STATE if there is no query.", c -> {
            c.stop(STATE).consult("p(1).p(2).", 2).ask("p(X).", 1).stop(1).stop(STATE).ask("p(X),p(Y).", 2).run(1, 1).stop(1).stop(STATE);
            c.ask("p(X).", 1).run(1, 2).stop(2).states(0, 0, 0, 0, 0, 0, 0, 0, 0, 0, 0, 0, 0).variable(0, 0, BAD).frame(0, BAD).choice(0, BAD);
            c.stop(STATE).ask("fail.", 1).run(1, 3).stop(3).stop(STATE).ask("call(1).", 1).run(1, 4).stop(4).stop(STATE).state(10, 0);
            c.told(0, 2).told(3, 1).ask("p(X).", 1).consult("", 0).stop(STATE);
        });
    }

    private static void state() {
        promise(17, "Returns the number (0 for 1 to 12 if there is no query); BAD if what is out of range.", c -> {
            int[] wrong = {-1, 13, 14, LOW, HIGH};
            for (int round = 0; round < 4; round++) {
                for (int w : wrong) {
                    c.state(w, BAD);
                }
                if (round == 0) {
                    c.states(0, 0, 0, 0, 0, 0, 0, 0, 0, 0, 0, 0, 0).consult("p(1):-q.p(2).q.", 3).ask("p(X),not(p(3)),fail.", 3);
                } else if (round == 1) {
                    c.run(1, 1).run(2, 1).states(1, 3, 0, 2, 3, 0, 2, 1, 1, 2, 0, 2, 1);
                } else if (round == 2) {
                    c.stop(1).states(0, 0, 0, 0, 0, 0, 0, 0, 0, 0, 0, 0, 0);
                }
            }
        });
        promise(17, "10 the error, 1 to 3 (0 if its state is not 4)", c -> {
            c.state(10, 0).consult("l:-l.", 1).ask("call(X).", 1).state(10, 0).run(1, 4).state(10, 1).ask("is(X,Y).", 1).state(10, 0).run(1, 4);
            c.state(10, 2).ask("l.", 1).state(10, 0).run(299, 1).state(10, 0).run(1, 4).state(10, 3).stop(4).state(10, 0);
            c.ask("true.", 1).run(1, 2).state(10, 0).run(1, 3).state(10, 0).ask("not([]).", 1).run(1, 4).state(10, 1).consult("", 0).state(10, 0);
        });
        promise(17, "1 inferences so far; 2 solutions so far", c -> {
            c.consult("p(1).p(2).", 2).ask("p(X),true.", 2).states(1, 0, 0).run(1, 1).states(1, 1, 0).run(1, 2).states(2, 2, 1);
            c.run(1, 2).states(2, 3, 2).run(1, 3).states(3, 3, 2).ask("is(X,a).", 1).run(1, 4).states(4, 1, 0).ask("true.", 1).states(1, 0, 0);
            c.run(1, 2).states(2, 1, 1).stop(2).states(0, 0, 0);
        });
    }

    private static void stateCounts() {
        promise(17, "3 frames; 4 remaining goals in all frames together; 5 the sum, over all frames, of the number of different variables that"
                + " occur, in the program or query, in the remaining goals of the frame", c -> {
            c.consult("p(X,Y,Z):-q(X,X),r(X,Y),r(W,W).q(A,B):-r(A,A),s(B).r(A,A).s(1).", 4);
            c.ask("p(A,B,C),same(A,1),s(A),s(D).", 4).states(1, 0, 0, 1, 4, 4);
            c.run(1, 1).states(1, 1, 0, 2, 6, 5).run(1, 1).states(1, 2, 0, 3, 7, 7).frame(0, 2, 2, 1).frame(1, 2, 3, 0).frame(2, 3, 2, NONE);
            c.run(1, 1).states(1, 3, 0, 3, 6, 6).run(1, 1).states(1, 4, 0, 2, 5, 5).run(1, 1).states(1, 5, 0, 2, 4, 3).run(1, 1).states(1, 6, 0, 1, 3, 2);
            c.run(1, 1).states(1, 7, 0, 1, 2, 2).run(1, 1).states(1, 8, 0, 1, 1, 1).run(1, 2).states(2, 9, 1, 0, 0, 0);
        });
        promise(17, "6 choice points (barriers included); 7 barriers; 8 variables in the trail; 9 tries of clauses so far", c -> {
            c.consult("p(1).p(2).p(3).", 3).ask("p(X),not(p(Y)).", 2).state(6, 0).state(7, 0).state(9, 0).run(1, 1).state(6, 1).state(7, 0).state(8, 1);
            c.state(9, 1).run(1, 1).state(6, 2).state(7, 1).state(8, 1).run(300, 3).state(6, 0).state(7, 0).state(8, 0).state(9, 6);
            c.ask("p(X),not(not(p(3))),p(Y).", 3).run(3, 1).state(6, 3).state(7, 2).run(1, 1).state(6, 1).state(7, 0).state(9, 2).run(1, 2).state(6, 2);
            c.state(8, 2).state(9, 3);
        });
    }

    private static void stateMaxima() {
        promise(17, "11 the greatest number of frames, and 12 of choice points, that there were at the beginning of an inference so far, before its"
                + " goal was taken", c -> {
            c.consult("p:-q,r.q:-s,s.r.s.t.t.", 6).ask("p,true.", 2).state(11, 0).run(1, 1).state(3, 2).state(11, 1).run(1, 1).state(3, 3).state(11, 2);
            c.run(1, 1).state(11, 3).run(2, 1).state(3, 1).state(11, 3).run(1, 2).state(11, 3).run(1, 3).state(11, 3).state(12, 0);
            c.ask("t,t,t.", 3).run(1, 1).state(6, 1).state(12, 0).run(1, 1).state(6, 2).state(12, 1).run(1, 2).state(6, 3).state(12, 2);
            c.run(300, 2).state(12, 2).run(300, 2).state(12, 2).ask("t,cut,t.", 3).run(2, 1).state(12, 1).run(1, 2).state(12, 1).run(1, 2).run(1, 3).state(12, 1);
            c.ask("not(t).", 1).run(1, 1).state(6, 1).state(12, 0).state(11, 1).run(1, 3).state(12, 1).state(11, 1);
            c.ask("true.", 1).state(11, 0).state(12, 0).run(1, 2).state(11, 1);
        });
    }

    private static void variable() {
        promise(18, "`what`: 0 whether it is bound (1 or 0), where a variable that is bound to a variable without a binding counts as not bound", c -> {
            c.ask("same(A,B),same(C,1),same(D,[]),same(E,f(F)).", 4);
            for (int v = 0; v < 6; v++) {
                c.variable(v, 0, 0);
            }
            c.run(4, 2).variable(0, 0, 0).variable(1, 0, 0).variable(2, 0, 1).variable(3, 0, 1).variable(4, 0, 1).variable(5, 0, 0);
            c.ask("same(A,B),same(B,C),same(C,2).", 3).run(2, 1).variable(0, 0, 0).variable(1, 0, 0).variable(2, 0, 0);
            c.run(1, 2).variable(0, 0, 1).variable(1, 0, 1).variable(2, 0, 1).run(1, 3).variable(0, 0, 0);
        });
        promise(18, "1 the kind of its value: 1 a variable, 2 an integer, 3 an atom, 4 a compound; 2 its value, if this is an integer (NONE"
                + " otherwise)", c -> {
            c.ask("same(A,B),is(C,sub(0,9)),same(f(D,E),f(a,[])),same(f(F,G),f(g(1),[H])),same(D,I),is(J,0).", STATE);
            c.ask("same(A,B),is(C,sub(0,9)),same(f(D,E),f(a,[])),same(f(F,G),f(g(1),[1])),is(H,0).", 5).run(5, 2);
            int[] kinds = {1, 1, 2, 3, 3, 4, 4, 2};
            int[] values = {NONE, NONE, -9, NONE, NONE, NONE, NONE, 0};
            for (int v = 0; v < kinds.length; v++) {
                c.variable(v, 1, kinds[v]).variable(v, 2, values[v]);
            }
        });
        promise(18, "3 the lowest variable of the query that has the same value because both are bound to the same variable or to each other,"
                + " possibly itself (NONE if its value is not a variable)", c -> {
            c.consult("e(X,X).h(X).f(X,Y):-e(X,Z),e(Z,Y).", 3).ask("e(B,D),f(C,A),h(E),same(F,1),same(F,G).", 5).run(300, 2);
            // the variables are B, D, C, A, E, F, G
            int[] lowest = {0, 0, 2, 2, 4, NONE, NONE};
            for (int v = 0; v < lowest.length; v++) {
                c.variable(v, 3, lowest[v]);
            }
            c.ask("e(A,B),e(C,D),e(D,B),same(E,f(A)),same(F,f(A)).", 5).run(300, 2);
            c.variable(1, 3, 0).variable(2, 3, 0).variable(3, 3, 0).variable(4, 3, NONE).variable(5, 3, NONE).variable(0, 3, 0);
        });
        promise(18, "BAD if there is no such variable (also if there is no query) or what is out of range", c -> {
            c.variable(0, 0, BAD).ask("true.", 1).variable(0, 0, BAD).ask("p(A,B,C).", 1).variable(2, 0, 0).variable(3, 0, BAD).variable(-1, 0, BAD);
            c.variable(LOW, 0, BAD).variable(HIGH, 0, BAD).variable(0, 3, 0).variable(0, 4, BAD).variable(0, -1, BAD).variable(0, LOW, BAD);
            c.variable(0, HIGH, BAD).run(1, 3).variable(0, 0, 0).variable(2, 3, 2).variable(3, 0, BAD).stop(3).variable(0, 0, BAD);
            c.ask("p([A,B,C,D,E,F,G,H]).", 1).variable(7, 3, 7).variable(8, 3, BAD).ask("p(A).", 1).variable(0, 0, 0).variable(1, 0, BAD);
        });
    }

    private static void value() {
        promise(19, "Returns its code; NONE if the text has not so many characters; BAD if there is no such variable (also if there is no query) or k"
                + " is negative.", c -> {
            c.due("value(0, 0)", c.m.value(0, 0), BAD);
            c.ask("same(X,f(1)),same(Y,[]).", 2).run(2, 2);
            int[] codes = {'f', '(', '1', ')', NONE, NONE};
            for (int k = 0; k < codes.length; k++) {
                c.due("value(0, " + k + ")", c.m.value(0, k), codes[k]);
            }
            c.due("value(0, highest)", c.m.value(0, HIGH), NONE);
            c.due("value(0, -1)", c.m.value(0, -1), BAD);
            c.due("value(0, lowest)", c.m.value(0, LOW), BAD);
            c.due("value(1, 1)", c.m.value(1, 1), ']');
            c.due("value(1, 2)", c.m.value(1, 2), NONE);
            for (int wrong : new int[] {-1, 2, 8, LOW, HIGH}) {
                c.due("value(" + wrong + ", 0)", c.m.value(wrong, 0), BAD);
                c.due("value(" + wrong + ", -1)", c.m.value(wrong, -1), BAD);
            }
            c.run(1, 3).value(0, "_0").stop(3).due("value(0, 0)", c.m.value(0, 0), BAD);
        });
    }

    private static void goal() {
        promise(20, "Returns a character of the next goal, the first goal of the top frame (it is never the end of a not when a method has"
                + " returned)", c -> {
            c.consult("p(1).p(2).q(X):-p(X),p(Y).", 3).ask("q(A),true.", 2).goal("q(_0)").run(1, 1).goal("p(_0)").run(1, 1).goal("p(_0)");
            c.run(1, 1).goal("true").ask("not(p(X)),true.", 2).run(1, 1).goal("p(_0)").run(1, 3).goal("");
            c.ask("not(p(3)),true.", 2).run(2, 1).goal("true").ask("not(not(p(1))),true.", 2).run(3, 1).goal("true");
            c.ask("p(X),not(less(X,2)),true.", 3).run(3, 1).goal("not(less(2,2))").run(1, 1).goal("less(2,2)").run(1, 1).goal("true");
        });
        promise(20, "Returns its code; NONE if the text has not so many characters, or there is no frame or no query; BAD if k is negative.", c -> {
            goalEnds(c);
            c.ask("p(1).", 1);
            int[] codes = {'p', '(', '1', ')', NONE, NONE};
            for (int k = 0; k < codes.length; k++) {
                c.due("goal(" + k + ")", c.m.goal(k), codes[k]);
            }
            c.due("goal(highest)", c.m.goal(HIGH), NONE);
            c.due("goal(-1)", c.m.goal(-1), BAD);
            c.due("goal(lowest)", c.m.goal(LOW), BAD);
            c.ask("true.", 1).run(1, 2);
            goalEnds(c);
            c.run(1, 3);
            goalEnds(c);
            c.ask("call(1),true.", 2).run(1, 4);
            goalEnds(c);
            c.ask("true.", 1).stop(1);
            goalEnds(c);
        });
    }

    /** There is no goal. */
    private static void goalEnds(Checks c) {
        c.due("goal(0)", c.m.goal(0), NONE);
        c.due("goal(highest)", c.m.goal(HIGH), NONE);
        c.due("goal(-1)", c.m.goal(-1), BAD);
    }

    private static void frame() {
        promise(21, "`f`: the frame, 0 for the top one", c -> {
            c.consult("p:-q,a.q:-r,b,c.", 2).ask("p,d.", 2).run(2, 1).frame(0, 3, 0, 1).frame(1, 1, 0, 0).frame(2, 1, 0, NONE).frame(3, BAD);
            c.frame(-1, BAD);
        });
        promise(21, "1 the number of different variables that occur in them, in the program or query", c -> {
            c.consult("p(X,Y):-q(X,Y,Z),q(X,X,W),q(Y,Y,Y),t.q(A,A,A).", 2).ask("p(f(A,B),C),q(A,1,[A,B|D]),t.", 3).frame(0, 3, 4, NONE);
            c.run(1, 1).frame(0, 4, 4, 0).frame(1, 2, 3, NONE).run(1, 1).frame(0, 3, 3, 0).run(1, 1).frame(0, 2, 1, 0).run(1, 1).frame(0, 1, 0, 0);
            c.ask("p([A,B,C|D],[E,F,G|H]).", 1).frame(0, 1, 8, NONE);
        });
        promise(21, "2 the clause to whose body they belong, NONE if they belong to the query or to a not", c -> {
            c.consult("q.p:-not(r),a.r:-s,b.", 3).ask("p,p.", 2).frame(0, 2, 0, NONE).run(1, 1).frame(0, 2, 0, 1).frame(1, 1, 0, NONE);
            c.run(1, 1).frame(0, 2, 0, NONE).frame(1, 1, 0, 1).frame(2, 1, 0, NONE).run(1, 1).frame(0, 2, 0, 2).frame(1, 1, 0, NONE).frame(2, 1, 0, 1);
        });
        promise(21, "BAD if there is no such frame or what is out of range", c -> {
            c.frame(0, BAD).ask("true,true.", 2).frame(0, 2, 0, NONE, BAD, BAD).frame(1, BAD, BAD, BAD);
            for (int wrong : new int[] {-1, 1, LOW, HIGH}) {
                c.frame(wrong, BAD);
                c.due("frame(0, " + (wrong == 1 ? 3 : wrong) + ")", c.m.frame(0, wrong == 1 ? 3 : wrong), BAD);
            }
            c.run(1, 1).frame(0, 1).run(1, 2).frame(0, BAD).run(1, 3).frame(0, BAD).ask("call(1).", 1).run(1, 4).frame(0, BAD);
            c.ask("true.", 1).stop(1).frame(0, BAD);
        });
    }

    private static void choice() {
        promise(22, "`p`: the choice point, 0 for the newest one", c -> {
            c.consult("p(1).p(2).q(1).q(2).q(3).", 5).ask("p(X),q(Y),not(r).", 3).run(3, 1).choice(0, NONE, 0, 0, 0).choice(1, 3, 2, 1, 1);
            c.choice(2, 1, 1, 1, 2).choice(3, BAD).choice(-1, BAD);
        });
        promise(22, "`what`: 0 the clause that will be tried next (NONE for a barrier); 1 the number of candidates that are left (0 for a barrier)", c -> {
            c.consult("p(1,a).p(X,b).p(2,c).p(1,d).p(1,e).", 5).ask("p(1,X).", 1).run(1, 2).choice(0, 1, 3).run(1, 2).choice(0, 3, 2);
            c.run(1, 2).choice(0, 4, 1).run(1, 2).choice(0, BAD).ask("not(p(1,z)).", 1).run(1, 1).choice(0, NONE, 0);
            c.ask("p(1,d).", 1).run(1, 2).choice(0, 4, 1);
        });
        promise(22, "2 the number of frames that it remembers; 3 the number of variables in the trail that have been bound since its creation", c -> {
            c.consult("p(1).p(2).a(X):-p(X),p(Y),same(Z,W).", 3).ask("p(X).", 1).run(1, 2).choice(0, 1, 1, 0, 1);
            c.ask("a(X),p(V),same(W,U).", 3).run(2, 1).choice(0, 1, 1, 2, 1).run(1, 1).choice(0, 1, 1, 2, 1).choice(1, 1, 1, 2, 2);
            c.run(1, 1).choice(0, 1, 1, 2, 2).choice(1, 1, 1, 2, 3).run(1, 1).choice(0, 1, 1, 1, 1).choice(1, 1, 1, 2, 3).choice(2, 1, 1, 2, 4);
            c.run(1, 2).state(8, 5).choice(0, 1, 1, 1, 2).choice(1, 1, 1, 2, 4).choice(2, 1, 1, 2, 5).choice(3, BAD);
            c.ask("not(p(3)).", 1).run(1, 1).choice(0, NONE, 0, 0, 0).ask("not(p(3)),true.", 2).run(1, 1).choice(0, NONE, 0, 1, 0);
        });
        promise(22, "BAD if there is no such choice point or what is out of range", c -> {
            c.choice(0, BAD).consult("p.p.", 2).ask("p,p.", 2).choice(0, BAD).run(1, 1).choice(0, 1, 1, 1, 0, BAD, BAD).choice(1, BAD);
            for (int wrong : new int[] {-1, 2, LOW, HIGH}) {
                c.choice(wrong, BAD);
                c.due("choice(0, " + (wrong == 2 ? 4 : wrong) + ")", c.m.choice(0, wrong == 2 ? 4 : wrong), BAD);
            }
            c.run(1, 2).choice(1, 1).choice(2, BAD).run(1, 2).choice(0, 1).choice(1, BAD).run(300, 2).run(300, 2).choice(0, BAD);
            c.ask("p.", 1).run(1, 2).choice(0, 1).stop(2).choice(0, BAD).ask("p,call(1).", 2).run(2, 4).choice(0, BAD);
        });
    }
}

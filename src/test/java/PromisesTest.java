/** For each promise of the document ordinary inputs, the edges that it names, and wrong inputs. */
public final class PromisesTest {
    private static final int BAD = LogicMachine.BAD, STATE = LogicMachine.STATE, FULL = LogicMachine.FULL,
            NONE = LogicMachine.NONE;
    private static final int LOW = Integer.MIN_VALUE, HIGH = Integer.MAX_VALUE;

    public static void main(String[] args) {
        newObject();
        write();
        wipe();
        faultOfParts();
        faultOfPlaces();
        faultOfHeads();
        faultOfCounts();
        faultOfFullTexts();
        consult();
        retract();
        move();
        undo();
        told();
        clause();
        listing();
        overlaps();
        reaches();
        ask();
        run();
        runErrors();
        runLimit();
        cut();
        not();
        call();
        unification();
        arithmetic();
        stop();
        state();
        trail();
        variable();
        value();
        goal();
        frame();
        choice();
        Checks.finish("PromisesTest");
    }

    private static void newObject() {
        Checks c = new Checks("promise 1");
        for (int what = 0; what <= 4; what++) {
            c.due("told", c.m.told(what), 0);
        }
        c.states(0, 0, 0, 0, 0, 0, 0, 0, 0, 0, 0, 0, 0);
        c.due("undo()", c.m.undo(), STATE);
        c.due("stop()", c.m.stop(), STATE);
        c.due("run(1)", c.m.run(1), STATE);
        c.due("retract(0)", c.m.retract(0), BAD);
        c.due("goal(0)", c.m.goal(0), NONE);
        c.due("frame(0, 0)", c.m.frame(0, 0), BAD);
        c.due("choice(0, 0)", c.m.choice(0, 0), BAD);
        c.due("BAD", BAD, -1);
        c.due("STATE", STATE, -2);
        c.due("FULL", FULL, -3);
        c.due("NONE", NONE, -9);
    }

    private static void write() {
        Checks c = new Checks("promise 2");
        for (int wrong : new int[] {31, 127, -1, 0, 255, 97 + 256, LOW, HIGH}) {
            c.due("write(" + wrong + ")", c.m.write(wrong), BAD);
        }
        c.due("told(4)", c.m.told(4), 0);
        for (int i = 1; i <= 120; i++) {
            c.due("write", c.m.write(31 + (i - 1) % 95 + 1), i);
        }
        c.due("write(32)", c.m.write(32), FULL);
        c.due("write(31)", c.m.write(31), BAD);
        c.due("write(127)", c.m.write(127), BAD);
        c.due("told(4)", c.m.told(4), 120);
    }

    private static void wipe() {
        Checks c = new Checks("promise 3");
        c.due("wipe()", c.m.wipe(), 0);
        c.type("p(1).");
        c.due("wipe()", c.m.wipe(), 5);
        c.due("wipe()", c.m.wipe(), 0);
        c.due("write(32)", c.m.write(32), 1);
        c.type("p.").due("consult()", c.m.consult(), 1);
        c.ask("p.", 1);
        c.m.wipe();
        c.state(0, 1).due("told(0)", c.m.told(0), 1);
    }

    private static void faultOfParts() {
        Checks c = new Checks("promise 4, parts");
        c.due("fault(-1)", c.m.fault(-1), BAD);
        c.due("fault(2)", c.m.fault(2), BAD);
        c.due("fault of lowest", c.m.fault(LOW), BAD);
        c.due("fault of highest", c.m.fault(HIGH), BAD);
        c.faults("", NONE, 0);
        c.faults("   ", NONE, 3);
        c.faults("abcdef.", NONE, NONE);
        c.faults("abcdefg.", 0, 0);
        c.faults("aB3cD4.", NONE, NONE);
        c.faults("p(ABCD).", NONE, NONE);
        c.faults("p(ABCDE).", 2, 2);
        c.faults("p(A1b2).", NONE, NONE);
        c.faults("p(123456).", NONE, NONE);
        c.faults("p(1234567).", 2, 2);
        c.faults("p(000000).", NONE, NONE);
        c.faults("p(0000000).", 2, 2);
        c.faults("p(12a).", 4, 4);
        c.faults("p(1 2).", 4, 4);
        c.faults("p(a b).", 4, 4);
        c.faults("p(_).", 2, 2);
        c.faults("p(-1).", 2, 2);
        c.faults("p:a.", 1, 1);
        c.faults("p: -a.", 1, 1);
        c.faults("p:", 1, 1);
        c.faults("p:-", 3, 1);
        c.faults("p-a.", 1, 1);
        c.faults("p'.", 1, 1);
        c.faults("p~", 1, 1);
        c.faults("  p  (  X  ,  [  1  |  T  ]  )  :-  q  ,  r  .  ", NONE, 32);
        c.faults("  p  (  X  ,  [  1  |  T  ]  )  .  ", NONE, NONE);
        c.faults("p.  ", NONE, NONE);
        c.faults("p. q", 4, 3);
        c.faults("p. 1", 3, 3);
        c.faults("p. $", 3, 3);
        c.faults("p", 1, 1);
        c.faults("p  ", 3, 3);
    }

    private static void faultOfPlaces() {
        Checks c = new Checks("promise 4, places");
        c.faults(".", 0, 0);
        c.faults("X.", 0, 0);
        c.faults("1.", 0, 0);
        c.faults("[].", 0, 0);
        c.faults("p().", 2, 2);
        c.faults("p(,).", 2, 2);
        c.faults("p(a,).", 4, 4);
        c.faults("p(a.", 3, 3);
        c.faults("p(a", 3, 3);
        c.faults("p(", 2, 2);
        c.faults("p)", 1, 1);
        c.faults("p(a)).", 4, 4);
        c.faults("p(a)(b).", 4, 4);
        c.faults("p(X(a)).", 3, 3);
        c.faults("p(1(a)).", 3, 3);
        c.faults("p([](a)).", 4, 4);
        c.faults("p(f(a)(b)).", 6, 6);
        c.faults("p(a:-b).", 3, 3);
        c.faults("p(a|b).", 3, 3);
        c.faults("p(a]).", 3, 3);
        c.faults("p([a)).", 4, 4);
        c.faults("p([).", 3, 3);
        c.faults("p([,]).", 3, 3);
        c.faults("p([|a]).", 3, 3);
        c.faults("p([a,]).", 5, 5);
        c.faults("p([a|]).", 5, 5);
        c.faults("p([a|b,c]).", 6, 6);
        c.faults("p([a|b|c]).", 6, 6);
        c.faults("p([a|b]).", NONE, NONE);
        c.faults("p([a,b,c,d,e,f|[]]).", NONE, NONE);
        c.faults("p([[[]]]).", NONE, NONE);
        c.faults("p([]]).", 4, 4);
        c.faults("p:-q.", NONE, 1);
        c.faults("p:-.", 3, 1);
        c.faults("p:-q:-r.", 4, 1);
        c.faults("p:-q,.", 5, 1);
        c.faults("p:-X.", 3, 1);
        c.faults("p,q.", 1, NONE);
        c.faults("p,q,.", 1, 4);
        c.faults("p..", 2, 2);
        c.faults("p.q.", NONE, 2);
        c.faults(":-p.", 0, 0);
        c.faults("p q.", 2, 2);
        String deep = "p(" + "[".repeat(57) + "]".repeat(57) + ").";
        c.faults(deep, NONE, NONE);
        c.faults("p(" + "[".repeat(118), 120, 120);
        c.faults("p(".repeat(60), 120, 120);
        c.faults("p(".repeat(39) + "a" + ")".repeat(39) + ".", NONE, NONE);
    }

    private static void faultOfHeads() {
        Checks c = new Checks("promise 4, heads");
        for (String name : new String[] {"true", "fail", "cut"}) {
            int n = name.length();
            c.faults(name + ".", 0, NONE);
            c.faults(name, 0, n);
            c.faults(name + ":-a.", 0, n);
            c.faults(name + " $", 0, n + 1);
            c.faults(name + "  (", n + 3, n + 3);
            c.faults(name + "(X).", NONE, NONE);
            c.faults(name + " (X) .", NONE, NONE);
            c.faults("a." + name + ".", 2, 2);
            c.faults("a:-" + name + ".", NONE, 1);
            c.faults("p(" + name + ").", NONE, NONE);
        }
        c.faults("call(X).", 6, NONE);
        c.faults("not(X):-a.", 5, 6);
        c.faults("same(X,Y).", 8, NONE);
        c.faults("less(X,Y).", 8, NONE);
        c.faults("is(X,Y).", 6, NONE);
        c.faults("call(f(X)).", 9, NONE);
        c.faults("call( a ) .", 8, NONE);
        c.faults("call.", NONE, NONE);
        c.faults("call(X,Y).", NONE, NONE);
        c.faults("not(X,Y,Z).", NONE, NONE);
        c.faults("same(X).", NONE, NONE);
        c.faults("same(X,Y,Z).", NONE, NONE);
        c.faults("is.", NONE, NONE);
        c.faults("p(call(X)).", NONE, NONE);
        c.faults("add(X,Y).", NONE, NONE);
        c.faults("cut(X):-call(Y).", NONE, 6);
        c.faults("callx(X).", NONE, NONE);
    }

    private static void faultOfCounts() {
        Checks c = new Checks("promise 4, counts");
        c.faults("p(a,b,c).", NONE, NONE);
        c.faults("p(a,b,c,d).", 7, 7);
        c.faults("p(a,b,c,", 7, 7);
        c.faults("p(f(a,b,c,d)).", 9, 9);
        c.faults("p([a,b,c,d,e]).", NONE, NONE);
        c.faults("a,b,c,d,e.", 1, NONE);
        c.faults("a,b,c,d,e,f.", 1, 9);
        c.faults("h:-a,b,c,d,e.", NONE, 1);
        c.faults("h:-a,b,c,d,e,f.", 12, 1);
        c.faults("h:-a,b,c,d,e,", 12, 1);
        c.faults("p([A,B,C,D,E,F,G,H,A,B]).", NONE, NONE);
        c.faults("p([A,B,C,D,E,F,G,H,A,I]).", 21, 21);
        c.faults("p([A,B,C,D]):-q([E,F,G,H]),r(I).", 29, 12);
        c.faults("p([A,B,C,D,E]).p([F,G,H,I,J]).", NONE, 15);
        c.faults("a.".repeat(20), NONE, 2);
        c.faults("a.".repeat(20) + "  ", NONE, 2);
        c.faults("a.".repeat(20) + " b", 41, 2);
        c.faults("a.".repeat(21), 40, 2);
        c.consult("a.".repeat(18), 18);
        c.faults("b.c.", NONE, 2);
        c.faults("b.c. d.", 5, 2);
        c.faults("b.c.$", 4, 2);
        c.faults("b.c.true", 4, 2);
        c.faults("b.c(", 4, 2);
        c.faults("a,b.", 1, NONE);
        c.consult("b.c.", 2);
        c.faults("", NONE, 0);
        c.faults(" b.", 1, NONE);
    }

    /** Nothing of an earlier text, and nothing behind the last character, is looked at. */
    private static void faultOfFullTexts() {
        Checks c = new Checks("promise 4, full texts");
        String spaces = " ".repeat(120);
        for (String end : new String[] {"true", "p", "p(", "p(X", "p(12", "p(123456", "p(1234567", "p:", "p:-", "p(["}) {
            String text = spaces.substring(end.length()) + end;
            int start = 120 - end.length();
            boolean isLong = end.endsWith("7");
            c.faults(text, end.equals("true") ? start : end.equals("p:") ? 119 : isLong ? 113 : 120,
                    end.startsWith("p:") ? start + 1 : isLong ? 113 : 120);
        }
        c.faults(spaces, NONE, 120);
        c.faults(spaces.substring(2) + "p.", NONE, NONE);
        c.type("true(X).").faults("true", 0, 4);
        c.type("p:-q.").faults("p:", 1, 1);
        c.type("p(123456).").faults("p(123", 5, 5);
        c.type("pqrstu.").faults("pq", 2, 2);
        c.type("p.q.").faults("p", 1, 1);
    }

    private static void consult() {
        Checks c = new Checks("promise 5");
        c.consult("", 0);
        c.due("told(3)", c.m.told(3), 1);
        c.consult("p(1). p(2):-q.", 2).listing(0, "p(1).").listing(1, "p(2):-q.");
        c.due("the text stays", c.m.told(4), 14);
        c.due("consult() again", c.m.consult(), 2);
        c.due("told(0)", c.m.told(0), 4);
        c.consult("p(3). p(", STATE);
        c.due("told(0)", c.m.told(0), 4);
        c.due("told(3)", c.m.told(3), 3);
        c.ask("p(X).", 1).run(1, 2);
        c.consult("p(", STATE).state(0, 2);
        c.consult("a.".repeat(17), STATE).state(0, 2);
        c.consult("a.".repeat(16), 16).state(0, 0);
        c.consult("", 0);
        c.consult("a.", STATE);
        Checks d = new Checks("promise 5, the largest clauses");
        String items = "1,".repeat(56) + "1";
        d.consult("p([" + items + "]).", 1).listing(0, "p([" + items + "]).");
        d.ask("p([" + items + "]).", 1).run(1, 2);
        d.ask("p([" + items.substring(0, 110) + "2|X]).", 1).run(1, 3);
        String deep = "p(" + "[".repeat(57) + "]".repeat(57) + ").";
        d.consult(deep, 1).listing(1, deep);
        d.ask(deep, 1).run(1, 2).state(9, 2);
    }

    private static void retract() {
        Checks c = new Checks("promise 6");
        c.consult("a.b.c.d.", 4);
        for (int wrong : new int[] {-1, 4, LOW, HIGH}) {
            c.due("retract(" + wrong + ")", c.m.retract(wrong), BAD);
        }
        c.ask("a.", 1);
        c.due("retract(4)", c.m.retract(4), BAD);
        c.state(0, 1);
        c.due("retract(1)", c.m.retract(1), 3);
        c.state(0, 0).listing(0, "a.").listing(1, "c.").listing(2, "d.");
        c.due("retract(2)", c.m.retract(2), 2);
        c.due("retract(0)", c.m.retract(0), 1);
        c.listing(0, "c.").due("told(3)", c.m.told(3), 4);
        c.due("retract(0)", c.m.retract(0), 0);
        c.due("retract(0)", c.m.retract(0), BAD);
        c.due("told(3)", c.m.told(3), 5);
    }

    private static void move() {
        Checks c = new Checks("promise 7");
        c.consult("a.b.c.d.", 4);
        for (int wrong : new int[] {-1, 4, LOW, HIGH}) {
            c.due("move(" + wrong + ", 0)", c.m.move(wrong, 0), BAD);
            c.due("move(0, " + wrong + ")", c.m.move(0, wrong), BAD);
        }
        c.due("told(3)", c.m.told(3), 1);
        c.due("move(0, 2)", c.m.move(0, 2), 2);
        c.listing(0, "b.").listing(1, "c.").listing(2, "a.").listing(3, "d.");
        c.due("move(3, 0)", c.m.move(3, 0), 0);
        c.listing(0, "d.").listing(1, "b.").listing(2, "c.").listing(3, "a.");
        c.ask("a.", 1);
        c.due("move(1, 1)", c.m.move(1, 1), 1);
        c.state(0, 0).listing(0, "d.").listing(1, "b.").listing(2, "c.").listing(3, "a.");
        c.due("told(3)", c.m.told(3), 4);
    }

    private static void undo() {
        Checks c = new Checks("promise 8");
        c.due("undo()", c.m.undo(), STATE);
        for (int i = 1; i <= 8; i++) {
            c.consult("a" + i + ".", 1);
            c.due("told(3)", c.m.told(3), Math.min(i, 6));
        }
        c.due("retract(0)", c.m.retract(0), 7);
        c.due("told(3)", c.m.told(3), 6);
        c.ask("a.", 1);
        c.due("undo()", c.m.undo(), 5);
        c.state(0, 0).listing(0, "a1.").listing(7, "a8.");
        for (int left = 4; left >= 0; left--) {
            c.due("undo()", c.m.undo(), left);
            c.due("told(0)", c.m.told(0), left + 3);
        }
        c.ask("a.", 1);
        c.due("undo()", c.m.undo(), STATE);
        c.state(0, 1).due("told(0)", c.m.told(0), 3);
        c.due("move(0, 2)", c.m.move(0, 2), 2);
        c.due("undo()", c.m.undo(), 0);
        c.listing(0, "a1.").listing(1, "a2.").listing(2, "a3.");
        c.due("the text stays", c.m.told(4), 2);
    }

    private static void told() {
        Checks c = new Checks("promise 9");
        for (int wrong : new int[] {-1, 5, LOW, HIGH}) {
            c.due("told(" + wrong + ")", c.m.told(wrong), BAD);
        }
        c.consult("p:-q,q(1),call(r(X)),not(call(s)),t.p(1):-u.p(2).", 3);
        c.due("told(0)", c.m.told(0), 3);
        c.due("told(1)", c.m.told(1), 2);
        c.due("told(2)", c.m.told(2), 6);
        c.due("told(4)", c.m.told(4), 49);
        c.consult("v:-call(X),call(1),not([]),call([a]),not(not(call(w))).", 1);
        c.due("told(2)", c.m.told(2), 7);
        c.consult("v:-true,cut,same(a1,b1),call(call(p)),not(fail).", 1);
        c.due("told(2)", c.m.told(2), 7);
        c.consult("v:-true(X),call(q),call(a,b),call.", 1);
        c.due("told(2)", c.m.told(2), 10);
        c.consult("q.w.", 2);
        c.due("told(1)", c.m.told(1), 5);
        c.due("told(2)", c.m.told(2), 8);
        c.due("told(3)", c.m.told(3), 5);
    }

    private static void clause() {
        Checks c = new Checks("promise 10");
        c.consult("p(X,Y,X):-q(Z),r(Y,W),p(1,2,3).q(3).q.p(a,b,c):-call(p(a,b,c)).p(f(A),A,B).q(c).q([]).q([A|A]).", 8);
        for (int wrong : new int[] {-1, 8, LOW, HIGH}) {
            c.due("clause(" + wrong + ", 0)", c.m.clause(wrong, 0), BAD);
            c.due("clause(0, " + wrong + ")", c.m.clause(0, wrong), BAD);
        }
        int[][] wanted = {{3, 4, 2, 0, 1, 1, 0, 0}, {0, 0, 0, 1, 2, 0, 0, 0}, {0, 0, 0, 2, 0, 0, 0, 0},
            {1, 0, 0, 0, 3, 0, 0, 0}, {0, 2, 1, 0, 4, 0, 0, 0}, {0, 0, 0, 1, 3, 0, 0, 0}, {0, 0, 0, 1, 3, 0, 0, 0},
            {0, 1, 0, 1, 4, 0, 0, 0}};
        for (int i = 0; i < 8; i++) {
            for (int what = 0; what < 8; what++) {
                c.due("clause(" + i + ", " + what + ")", c.m.clause(i, what), wanted[i][what]);
            }
        }
        c.ask("q(X),same(X,[1|1]).", 2).run(300, 2);
        for (int i : new int[] {1, 5, 6, 7}) {
            c.due("clause(" + i + ", 6)", c.m.clause(i, 6), 1);
            c.due("clause(" + i + ", 7)", c.m.clause(i, 7), 1);
        }
        c.due("clause(0, 6)", c.m.clause(0, 6), 0);
        c.ask("q([1|2]).", 1).run(1, 3);
        c.due("clause(7, 6)", c.m.clause(7, 6), 1);
        c.due("clause(7, 7)", c.m.clause(7, 7), 0);
        c.due("clause(1, 6)", c.m.clause(1, 6), 0);
        c.due("stop()", c.m.stop(), 3);
        c.due("clause(7, 6)", c.m.clause(7, 6), 0);
    }

    private static void listing() {
        Checks c = new Checks("promise 11");
        c.consult(" p ( X , [ Y , 007 | X ] , [ ] ) :- q ( Z , Y ) , true . r . s:-[].", STATE);
        c.consult(" p ( X , [ Y , 007 | X ] , [ ] ) :- q ( Z , Y ) , true . r . ", 2);
        c.listing(0, "p(_0,[_1,7|_0],[]):-q(_2,_1),true.").listing(1, "r.");
        for (int wrong : new int[] {-1, 2, LOW, HIGH}) {
            c.due("listing(" + wrong + ", 0)", c.m.listing(wrong, 0), BAD);
        }
        c.due("listing(0, -1)", c.m.listing(0, -1), BAD);
        c.due("listing(0, lowest)", c.m.listing(0, LOW), BAD);
        c.due("listing(1, 2)", c.m.listing(1, 2), NONE);
        c.due("listing(1, highest)", c.m.listing(1, HIGH), NONE);
        c.consult("p([a,b|[c|[]]],[[]|[]],[a|f(B,[B,C|D])]).", 1).listing(2, "p([a,b,c],[[]],[a|f(_0,[_0,_1|_2])]).");
        String many = "A,".repeat(40);
        c.consult("p([" + many + "B]):-q(000).", 1).listing(3, ("p([" + "_0,".repeat(40)).substring(0, 120));
        c.due("listing(3, 119)", c.m.listing(3, 119), ',');
        c.due("listing(3, 120)", c.m.listing(3, 120), NONE);
        c.ask("p(X,Y,Z).", 1).run(1, 1);
        c.listing(0, "p(_0,[_1,7|_0],[]):-q(_2,_1),true.");
    }

    private static void overlaps() {
        Checks c = new Checks("promise 12");
        c.consult("p(1).p(1).p(2).p(a).p(a).p([]).p([]).p(f(1)).p(f(2)).p(f(1,2)).p([a|b]).p([c]).q.q.q.", 15);
        for (int i = 0; i < 12; i++) {
            c.due("overlaps(" + i + ")", c.m.overlaps(i), 5);
        }
        c.due("overlaps(12)", c.m.overlaps(12), 3);
        c.consult("p(X).p(1,1).p(1,2).", 3);
        c.due("overlaps(0)", c.m.overlaps(0), 17);
        c.due("overlaps(15)", c.m.overlaps(15), 17);
        c.due("overlaps(16)", c.m.overlaps(16), 1);
        for (int wrong : new int[] {-1, 18, LOW, HIGH}) {
            c.due("overlaps(" + wrong + ")", c.m.overlaps(wrong), BAD);
        }
    }

    private static void reaches() {
        Checks c = new Checks("promise 13");
        c.consult("a:-b.b:-not(call(c)).c:-d,e.d:-d.e:-b(1).b(X):-call(X),not([]),f.f:-a.g.", 8);
        int[][] wanted = {{6, 1, 2, 3, 3, 4, 5, NONE}, {5, 6, 1, 2, 2, 3, 4, NONE}, {4, 5, 6, 1, 1, 2, 3, NONE},
            {NONE, NONE, NONE, 1, NONE, NONE, NONE, NONE}, {3, 4, 5, 6, 6, 1, 2, NONE}, {2, 3, 4, 5, 5, 6, 1, NONE},
            {1, 2, 3, 4, 4, 5, 6, NONE}, {NONE, NONE, NONE, NONE, NONE, NONE, NONE, NONE}};
        for (int i = 0; i < 8; i++) {
            for (int j = 0; j < 8; j++) {
                c.due("reaches(" + i + ", " + j + ")", c.m.reaches(i, j), wanted[i][j]);
            }
        }
        for (int wrong : new int[] {-1, 8, LOW, HIGH}) {
            c.due("reaches(" + wrong + ", 0)", c.m.reaches(wrong, 0), BAD);
            c.due("reaches(0, " + wrong + ")", c.m.reaches(0, wrong), BAD);
        }
        c.consult("g:-h.h:-a.", 2);
        c.due("reaches(7, 0)", c.m.reaches(7, 0), 2);
        Checks chain = new Checks("promise 13, a long chain");
        StringBuilder s = new StringBuilder();
        for (char name = 'a'; name < 't'; name++) {
            s.append(name).append(":-").append((char) (name + 1)).append('.');
        }
        chain.consult(s + "t:-a.", 20);
        chain.due("reaches(0, 19)", chain.m.reaches(0, 19), 19);
        chain.due("reaches(0, 0)", chain.m.reaches(0, 0), 20);
    }

    private static void ask() {
        Checks c = new Checks("promise 14");
        c.due("ask()", c.m.ask(), STATE);
        c.ask("a,b,c,d,e.", 5).states(1, 0, 0, 1, 5, 0, 0, 0, 0, 0, 0, 0, 0);
        c.ask("a", STATE).states(1, 0, 0, 1, 5);
        c.ask("a:-b.", STATE);
        c.ask("a. b.", STATE);
        c.ask("same(X,Y) , p ( Z ) .", 2).states(1, 0, 0, 1, 2, 3);
        c.due("the text stays", c.m.told(4), 21);
        c.run(1, 1).due("variable(1, 3)", c.m.variable(1, 3), 0);
        c.due("ask() again", c.m.ask(), 2);
        c.due("variable(1, 3)", c.m.variable(1, 3), 1);
        c.states(1, 0, 0, 1, 2, 3, 0, 0, 0, 0, 0, 0, 0);
        c.due("told(3)", c.m.told(3), 0);
    }

    private static void run() {
        Checks c = new Checks("promise 15");
        c.due("run(1)", c.m.run(1), STATE);
        c.due("run(0)", c.m.run(0), BAD);
        c.ask("true.", 1);
        for (int wrong : new int[] {0, -1, 301, LOW, HIGH}) {
            c.due("run(" + wrong + ")", c.m.run(wrong), BAD);
        }
        c.state(0, 1).run(300, 2).states(2, 1, 1, 0).run(1, 3).states(3, 1, 1);
        c.due("run(1)", c.m.run(1), STATE);
        c.due("run(301)", c.m.run(301), BAD);
        c.consult("p(1).p(2).p(3).q(X,Y):-p(X),p(Y),less(X,Y).", 4);
        c.ask("q(A,B).", 1);
        c.run(1, 1).states(1, 1, 0, 1, 3, 2, 0, 0, 0, 1, 0, 1, 0);
        c.run(1, 1).states(1, 2, 0, 1, 2, 2, 1, 0, 1, 2, 0, 1, 0);
        c.run(1, 1).states(1, 3, 0, 1, 1, 2, 2, 0, 2, 3, 0, 1, 1);
        c.run(1, 1).states(1, 4, 0, 1, 1, 2, 2, 0, 2, 4, 0, 1, 2);
        c.run(1, 2).states(2, 5, 1, 0, 0, 0, 2, 0, 2, 4, 0, 1, 2).value(0, "1").value(1, "2");
        c.run(300, 2).value(0, "1").value(1, "3");
        c.run(300, 2).value(0, "2").value(1, "3").states(2, 10, 3, 0, 0, 0, 1, 0, 2, 9);
        c.run(300, 3).states(3, 14, 3, 0, 0, 0, 0, 0, 0, 13, 0, 1, 2);
        c.ask("p(X).", 1).run(1, 2).value(0, "1").run(1, 2).value(0, "2").run(1, 2).value(0, "3").run(1, 3).state(1, 1);
        c.ask("nosuch(1).", 1).run(1, 3).states(3, 1, 0, 0, 0, 0, 0, 0, 0, 0);
        c.ask("p(4).", 1).run(1, 3).state(9, 0);
        c.ask("p(a).", 1).run(1, 3).state(9, 0);
        c.ask("p.", 1).run(1, 3).state(9, 0);
    }

    private static void runErrors() {
        Checks c = new Checks("promise 15, errors");
        for (String text : new String[] {"call(X).", "call(1).", "call([]).", "call([a]).", "call(call(X)).", "not(X).",
            "not(1).", "not([]).", "not([a|b]).", "call(not(X)).", "same(X,[a]),call(X).", "same(X,Y),not(Y)."}) {
            c.ask(text, text.startsWith("same") ? 2 : 1).run(300, 4).state(10, 1).state(0, 4).state(3, 0);
            c.due("run(1)", c.m.run(1), STATE);
        }
        for (String text : new String[] {"is(X,Y).", "is(X,a).", "is(X,[]).", "is(X,[1]).", "is(1,add(1)).", "is(X,add(1,b)).",
            "is(X,mul(Y,2)).", "is(X,add).", "is(X,f(1,2)).", "is(X,sub(1,2,3)).", "less(X,1).", "less(1,X).", "less(a,b)."}) {
            c.ask(text, 1).run(300, 4).state(10, 2).state(1, 1);
        }
        c.consult("p(1).p(2).", 2);
        c.ask("p(X),less(1,X),call(X).", 3).run(300, 4).states(4, 4, 0, 0, 0, 0, 0, 0, 0, 2, 1, 1, 1);
        c.due("variable(0, 0)", c.m.variable(0, 0), 0);
        c.value(0, "_0").goal("");
        c.due("choice(0, 0)", c.m.choice(0, 0), BAD);
        c.due("frame(0, 0)", c.m.frame(0, 0), BAD);
        c.due("clause(1, 6)", c.m.clause(1, 6), 1);
        c.due("stop()", c.m.stop(), 4);
    }

    private static void runLimit() {
        Checks c = new Checks("promise 15, the limit");
        c.consult("l:-l.n(0).n(X):-n(Y),is(X,add(Y,1)).", 3);
        c.ask("l.", 1).run(299, 1).state(1, 299).run(1, 4).states(4, 300, 0, 0);
        c.state(10, 3);
        c.ask("l.", 1).run(300, 4).state(10, 3);
        c.ask("n(X).", 1);
        for (int i = 0; i < 24; i++) {
            c.run(300, 2).value(0, Integer.toString(i)).state(1, 1 + i * (i + 3) / 2);
        }
        c.run(300, 4).states(4, 300, 24);
        Checks d = new Checks("promise 15, a solution at the limit");
        d.consult("p(0).p(N):-less(0,N),is(M,sub(N,1)),p(M).", 2);
        d.ask("p(98),true,true,true,true.", 5).run(300, 2).state(1, 299);
        d.ask("p(98),true,true,true,p(0).", 5).run(300, 2).state(1, 299);
        d.run(300, 4).states(4, 300, 1).state(10, 3);
        d.ask("p(99),true,true.", 3).run(300, 2).states(2, 300, 1).run(300, 4).state(10, 3);
        d.ask("p(99),true,true,not(fail).", 4).run(300, 4).state(10, 3);
        d.consult("q.q.", 2);
        d.ask("q,p(99),true.", 3).run(299, 1).run(1, 2).states(2, 300, 1);
    }

    private static void cut() {
        Checks c = new Checks("promise 15, cut");
        c.consult("p(1).p(2).p(3).a(X):-p(X),cut.a(9).b(X):-p(X),call(cut).d(X,Y):-p(X),b(Y),cut.", 7);
        c.ask("a(X).", 1).run(2, 1).state(6, 2).run(1, 2).state(6, 0).value(0, "1").state(8, 1).run(1, 3);
        c.ask("p(X),a(Y).", 2).run(300, 2).state(6, 1).run(300, 2).value(0, "2").value(1, "1");
        c.ask("b(X).", 1).run(300, 2).state(6, 1).run(300, 2).value(0, "2");
        c.ask("p(X),p(Y),cut.", 3).run(2, 1).state(6, 2).run(1, 2).state(6, 0).run(1, 3).state(2, 1);
        c.ask("p(X),cut,p(Y).", 3).run(300, 2).run(300, 2).value(0, "1").value(1, "2").run(300, 2).run(300, 3);
        c.ask("p(X),call(cut),call(call(cut)).", 3).run(300, 2).state(6, 1);
        c.ask("p(X),d(Y,Z).", 2).run(300, 2).state(6, 1).run(300, 2).value(0, "2").value(1, "1").value(2, "1");
        c.ask("p(X),not(a(4)).", 2).run(300, 2).state(6, 1).state(7, 0);
    }

    private static void not() {
        Checks c = new Checks("promise 15, not");
        c.consult("p(1).p(2).q(X):-not(p(X)).", 3);
        c.ask("not(p(X)),true.", 2);
        c.run(1, 1).states(1, 1, 0, 2, 3, 0, 1, 1, 0).goal("p(_0)");
        c.due("frame(0, 0)", c.m.frame(0, 0), 2);
        c.due("frame(0, 1)", c.m.frame(0, 1), 0);
        c.due("frame(0, 2)", c.m.frame(0, 2), NONE);
        c.due("choice(0, 0)", c.m.choice(0, 0), NONE);
        c.due("choice(0, 1)", c.m.choice(0, 1), 0);
        c.due("choice(0, 2)", c.m.choice(0, 2), 1);
        c.due("choice(0, 3)", c.m.choice(0, 3), 0);
        c.run(1, 3).states(3, 2, 0, 0, 0, 0, 0, 0, 0, 1, 0, 2, 1);
        c.ask("not(p(3)),same(X,1).", 2).run(1, 1).run(1, 1).states(1, 2, 0, 1, 1, 1, 0, 0).goal("same(_0,1)").run(1, 2);
        c.ask("not(not(p(X))).", 1).run(300, 2).value(0, "_0").states(2, 3, 1, 0, 0, 0, 0, 0, 0);
        c.ask("not(not(p(X))).", 1).run(2, 1).states(1, 2, 0, 2, 3, 0, 2, 2).goal("p(_0)");
        c.ask("not(cut).", 1).run(1, 1).goal("cut").run(1, 3);
        c.ask("p(X),not(cut).", 2).run(300, 3).state(1, 5);
        c.ask("p(X),not(same(X,1)).", 2).run(300, 2).value(0, "2").run(300, 3);
        c.ask("not(fail).", 1).run(1, 1).run(1, 2).state(1, 2).run(1, 3);
        c.ask("not(not(not(fail))).", 1).run(300, 2).state(1, 4);
        c.ask("q(1).", 1).run(300, 3);
        c.ask("q(3).", 1).run(300, 2);
        c.ask("p(X),not(call(call(q(X)))).", 2).run(300, 2).value(0, "1").run(300, 2).value(0, "2").run(300, 3);
    }

    private static void call() {
        Checks c = new Checks("promise 15, call");
        c.consult("p(1).p(2).p(X):-q(X).q(7).", 4);
        c.ask("same(G,p(X)),call(call(call(G))).", 2).run(1, 1).goal("call(call(call(p(_0))))");
        c.run(1, 2).states(2, 2, 1, 0, 0, 0, 1, 0, 1, 1).value(0, "p(1)").run(1, 2).value(1, "2").state(1, 2);
        c.run(1, 2).value(1, "7").state(1, 3).state(6, 0);
        c.ask("call(true),call(same(X,3)),call(is(Y,add(X,1))),call(less(X,Y)).", 4).run(4, 2).value(1, "4");
        c.ask("call(not(p(X))).", 1).run(1, 1).goal("p(_0)").run(1, 3);
        c.ask("call(fail).", 1).run(1, 3);
        c.ask("call(nosuch).", 1).run(1, 3);
    }

    private static void unification() {
        Checks c = new Checks("promise 15, unification");
        String[] good = {"same(1,01)", "same(a,a)", "same([],[])", "same([a,b],[a|[b]])", "same(f(X,b),f(a,Y))",
            "same(X,X)", "same(f(X),f(X))", "same(f(X,Y),f(Y,X))", "same([X|Y],[a,b,c])", "same(f(X,X),f(Y,Z))"};
        for (String text : good) {
            c.ask(text + ".", 1).run(1, 2);
        }
        String[] wrong = {"same(1,2)", "same(a,b)", "same(a,1)", "same(a,a(1))", "same(f(a),f(a,b))", "same(f(a),g(a))",
            "same([],[a])", "same(X,f(X))", "same(f(X,X),f(Y,g(Y)))", "same(f(X,Y),f(g(Y),g(X)))", "same([X|X],X)",
            "same(f(X,X),f(1,2))", "same(f(X,Y,X),f(Y,g(Z),Z))"};
        for (String text : wrong) {
            c.ask(text + ".", 1).run(1, 3);
        }
        c.ask("same(f(X,g(Y)),f(Z,Z)),same(Y,1).", 2).run(300, 2).value(0, "g(1)").value(1, "1").value(2, "g(1)");
        c.consult("p(X,X).p(X,f(X)).q(X,f(Y),Y).", 3);
        c.ask("p(Y,f(Y)).", 1).run(300, 2).state(9, 2);
        c.ask("p(Y,Y).", 1).run(1, 2).run(1, 3);
        c.ask("q(A,A,B).", 1).run(1, 2).value(0, "f(_0)").value(1, "_0");
        c.ask("q(A,B,B).", 1).run(1, 3).state(9, 1);
    }

    private static void arithmetic() {
        Checks c = new Checks("promise 15, arithmetic");
        c.ask("is(X,sub(3,add(2,mul(4,5)))).", 1).run(1, 2).value(0, "-19");
        c.due("variable(0, 2)", c.m.variable(0, 2), -19);
        c.ask("is(X,mul(999999,999999)).", 1).run(1, 2).value(0, "-729379967");
        c.ask("is(X,mul(65536,65536)).", 1).run(1, 2).value(0, "0");
        c.ask("is(Y,mul(65536,32768)),is(X,sub(Y,1)).", 2).run(2, 2).value(0, "-2147483648").value(1, "2147483647");
        c.ask("is(3,add(1,2)).", 1).run(1, 2);
        c.ask("is(4,add(1,2)).", 1).run(1, 3);
        c.ask("is(add(1,2),add(1,2)).", 1).run(1, 3);
        c.ask("less(1,2).", 1).run(1, 2);
        c.ask("less(2,2).", 1).run(1, 3);
        c.ask("less(3,2).", 1).run(1, 3);
        c.ask("less(sub(0,1),0).", 1).run(1, 2);
        c.ask("same(E,add(F,F)),same(F,mul(3,3)),is(X,E),less(17,E),less(E,19).", 5).run(300, 2).value(2, "18");
        c.consult("p(0).p(18).p(1).", 3);
        c.ask("is(X,sub(20,2)),p(X).", 2).run(2, 2).state(9, 1).state(6, 0);
    }

    private static void stop() {
        Checks c = new Checks("promise 16");
        c.due("stop()", c.m.stop(), STATE);
        c.ask("same(X,1).", 1);
        c.due("stop()", c.m.stop(), 1);
        c.due("stop()", c.m.stop(), STATE);
        c.states(0, 0, 0, 0, 0, 0, 0, 0, 0, 0, 0, 0, 0).goal("");
        c.due("variable(0, 0)", c.m.variable(0, 0), BAD);
        c.due("value(0, 0)", c.m.value(0, 0), BAD);
        c.due("frame(0, 0)", c.m.frame(0, 0), BAD);
        c.due("run(1)", c.m.run(1), STATE);
        c.ask("true.", 1).run(1, 2).due("stop()", c.m.stop(), 2);
        c.ask("fail.", 1).run(1, 3).due("stop()", c.m.stop(), 3);
        c.ask("call(X).", 1).run(1, 4).due("stop()", c.m.stop(), 4);
        c.due("told(3)", c.m.told(3), 0);
    }

    private static void state() {
        Checks c = new Checks("promise 17");
        for (int wrong : new int[] {-1, 13, LOW, HIGH}) {
            c.due("state(" + wrong + ")", c.m.state(wrong), BAD);
        }
        c.consult("p(X,Y):-q(X,Z),q(Z,Y),r(W).q(1,2).q(2,3).q(3,4).r(X).r(X):-s.", 6);
        c.ask("p(A,B),same(A,C),same(D,D).", 3).states(1, 0, 0, 1, 3, 4, 0, 0, 0, 0, 0, 0, 0);
        for (int wrong : new int[] {-1, 13, LOW, HIGH}) {
            c.due("state(" + wrong + ")", c.m.state(wrong), BAD);
        }
        c.run(1, 1).states(1, 1, 0, 2, 5, 7, 0, 0, 0, 1, 0, 1, 0);
        c.run(1, 1).states(1, 2, 0, 2, 4, 6, 1, 0, 2, 2, 0, 2, 0);
        c.run(1, 1).states(1, 3, 0, 2, 3, 4, 1, 0, 3, 3, 0, 2, 1);
        c.run(1, 1).states(1, 4, 0, 1, 2, 3, 2, 0, 3, 4, 0, 2, 1);
        c.run(2, 2).states(2, 6, 1, 0, 0, 0, 2, 0, 4, 4, 0, 2, 2);
        c.run(1, 1).states(1, 7, 1, 2, 4, 6, 1, 0, 2, 6, 0, 2, 2).goal("q(3,_0)");
    }

    private static void trail() {
        Checks c = new Checks("promise 17, the trail");
        c.consult("p(1).p(2).f(X):-same(X,A),same(A,1).m(X,Y):-p(X),cut,same(Y,3).m(4,4).", 5);
        c.ask("same(X,1),same(Y,f(Z)).", 2).run(2, 2).state(8, 0);
        c.ask("p(X),same(Y,f(Z,W)),same(Z,W).", 3).run(1, 1).state(8, 1).run(1, 1).state(8, 2).run(1, 2).state(8, 3);
        c.due("choice(0, 3)", c.m.choice(0, 3), 3);
        c.run(1, 1).state(8, 0).state(6, 0).run(300, 2).state(8, 0);
        c.ask("p(X),f(Y).", 2).run(300, 2).state(8, 2);
        c.ask("m(X,Y).", 1).run(1, 1).state(8, 0).run(1, 1).state(6, 2).state(8, 1);
        c.run(1, 1).state(6, 0).state(8, 1).run(1, 2).state(6, 0).state(8, 1).run(1, 3).state(8, 0);
        c.ask("p(X),m(Y,Z).", 2).run(300, 2).states(2, 5, 1, 0, 0, 0, 1, 0, 3);
        c.due("choice(0, 3)", c.m.choice(0, 3), 3);
        c.run(300, 2).states(2, 9, 2, 0, 0, 0, 0, 0, 1).value(0, "2").value(2, "3");
        c.ask("p(X).", 1).run(1, 2).state(6, 1).state(8, 1);
        c.ask("same(X,1),same(Y,X).", 2).state(6, 0).state(8, 0).run(300, 2).state(8, 0);
    }

    private static void variable() {
        Checks c = new Checks("promise 18");
        c.due("variable(0, 0)", c.m.variable(0, 0), BAD);
        c.ask("same(A,f(B)),same(C,D),same(E,B),same(F,7),same(G,[]).", 5);
        for (int v = 0; v < 7; v++) {
            c.due("variable(" + v + ", 0)", c.m.variable(v, 0), 0);
            c.due("variable(" + v + ", 1)", c.m.variable(v, 1), 1);
            c.due("variable(" + v + ", 2)", c.m.variable(v, 2), NONE);
            c.due("variable(" + v + ", 3)", c.m.variable(v, 3), v);
        }
        c.run(300, 2);
        int[][] wanted = {{1, 4, NONE, NONE}, {0, 1, NONE, 1}, {0, 1, NONE, 2}, {0, 1, NONE, 2}, {0, 1, NONE, 1},
            {1, 2, 7, NONE}, {1, 3, NONE, NONE}};
        for (int v = 0; v < 7; v++) {
            for (int what = 0; what < 4; what++) {
                c.due("variable(" + v + ", " + what + ")", c.m.variable(v, what), wanted[v][what]);
            }
        }
        for (int wrong : new int[] {-1, 7, 8, LOW, HIGH}) {
            c.due("variable(" + wrong + ", 0)", c.m.variable(wrong, 0), BAD);
        }
        for (int wrong : new int[] {-1, 4, LOW, HIGH}) {
            c.due("variable(0, " + wrong + ")", c.m.variable(0, wrong), BAD);
        }
        c.run(1, 3);
        c.due("variable(3, 3)", c.m.variable(3, 3), 3);
        c.due("variable(5, 1)", c.m.variable(5, 1), 1);
        c.consult("p(X,X).q(X,Y).", 2);
        c.ask("q(A,B),p(C,B),p(B,A).", 3).run(300, 2);
        c.due("variable(2, 3)", c.m.variable(2, 3), 0);
        c.due("variable(1, 3)", c.m.variable(1, 3), 0);
        c.due("variable(0, 3)", c.m.variable(0, 3), 0);
        c.due("variable(0, 0)", c.m.variable(0, 0), 0);
    }

    private static void value() {
        Checks c = new Checks("promise 19");
        c.due("value(0, 0)", c.m.value(0, 0), BAD);
        c.ask("same(A,f(B,[C,B|D],g)),same(E,[]),same(F,[1,[2],[]]).", 3).run(300, 2);
        c.value(0, "f(_0,[_1,_0|_2],g)").value(1, "_0").value(3, "_0").value(4, "[]").value(5, "[1,[2],[]]");
        for (int wrong : new int[] {-1, 6, LOW, HIGH}) {
            c.due("value(" + wrong + ", 0)", c.m.value(wrong, 0), BAD);
        }
        c.due("value(0, -1)", c.m.value(0, -1), BAD);
        c.due("value(0, lowest)", c.m.value(0, LOW), BAD);
        c.due("value(4, 2)", c.m.value(4, 2), NONE);
        c.due("value(4, highest)", c.m.value(4, HIGH), NONE);
        c.ask("same(A,[B,C|D]),same(D,[1|E]),same(E,x).", 3).run(300, 2).value(0, "[_0,_1,1|x]");
        c.consult("l([a|T]):-l(T).l([]).m(f(X,Y)):-m(X),n(Y).n(b).m(b).", 5);
        c.ask("l(X).", 1).run(300, 4).value(0, "_0");
        c.ask("l(X).", 1).run(90, 1).value(0, ("[" + "a,".repeat(60)).substring(0, 120));
        c.due("value(0, 119)", c.m.value(0, 119), 'a');
        c.due("value(0, 120)", c.m.value(0, 120), NONE);
        c.ask("m(X).", 1).run(80, 1).value(0, "f(".repeat(60));
        c.ask("l(X).", 1).run(59, 1).value(0, "[" + "a,".repeat(58) + "a|_");
        c.ask("l(X).", 1).run(58, 1).value(0, "[" + "a,".repeat(57) + "a|_0]");
    }

    private static void goal() {
        Checks c = new Checks("promise 20");
        c.due("goal(0)", c.m.goal(0), NONE);
        c.due("goal(-1)", c.m.goal(-1), BAD);
        c.due("goal(lowest)", c.m.goal(LOW), BAD);
        c.consult("p(X,Y):-q([Y,X|Z],X),r.q(A,B).", 2);
        c.ask("p(A,f(B)),true.", 2).goal("p(_0,f(_1))").run(1, 1).goal("q([f(_0),_1|_2],_1)");
        c.due("goal(highest)", c.m.goal(HIGH), NONE);
        c.due("goal(-1)", c.m.goal(-1), BAD);
        c.run(1, 1).goal("r").run(1, 3).goal("");
        c.ask("true.", 1).run(1, 2).goal("");
        c.ask("not(same(X,f(Y))).", 1).goal("not(same(_0,f(_1)))").run(1, 1).goal("same(_0,f(_1))");
    }

    private static void frame() {
        Checks c = new Checks("promise 21");
        c.consult("a.p(X,Y):-q(X,f(Y)),r(Y),s(Z).q(X,Y):-not(r(Y)),t(X,Y,X).", 3);
        c.ask("p(A,B),u(A,C),v(C).", 3);
        c.due("frame(0, 0)", c.m.frame(0, 0), 3);
        c.due("frame(0, 1)", c.m.frame(0, 1), 3);
        c.due("frame(0, 2)", c.m.frame(0, 2), NONE);
        c.run(3, 1).states(1, 3, 0, 4, 7, 6, 1, 1);
        c.due("frame(0, 0)", c.m.frame(0, 0), 2);
        c.due("frame(0, 1)", c.m.frame(0, 1), 0);
        c.due("frame(0, 2)", c.m.frame(0, 2), NONE);
        c.due("frame(1, 2)", c.m.frame(1, 2), 2);
        c.run(1, 1).states(1, 4, 0, 3, 5, 6, 0, 0);
        int[][] wanted = {{1, 2, 2}, {2, 2, 1}, {2, 2, NONE}};
        for (int f = 0; f < 3; f++) {
            for (int what = 0; what < 3; what++) {
                c.due("frame(" + f + ", " + what + ")", c.m.frame(f, what), wanted[f][what]);
            }
        }
        for (int wrong : new int[] {-1, 3, LOW, HIGH}) {
            c.due("frame(" + wrong + ", 0)", c.m.frame(wrong, 0), BAD);
            c.due("frame(0, " + wrong + ")", c.m.frame(0, wrong), BAD);
        }
        c.run(1, 3).due("frame(0, 0)", c.m.frame(0, 0), BAD);
    }

    private static void choice() {
        Checks c = new Checks("promise 22");
        c.consult("p(1,a).p(X,b).p(2,c).p(1,d).q(X):-p(1,X),r(X).r(X).r(Y).", 7);
        c.ask("q(A),p(B,C).", 2);
        c.due("choice(0, 0)", c.m.choice(0, 0), BAD);
        c.run(2, 1);
        int[] first = {1, 2, 2, 1};
        for (int what = 0; what < 4; what++) {
            c.due("choice(0, " + what + ")", c.m.choice(0, what), first[what]);
        }
        c.run(2, 2);
        int[][] wanted = {{1, 3, 0, 2}, {6, 1, 1, 2}, {1, 2, 2, 3}};
        for (int p = 0; p < 3; p++) {
            for (int what = 0; what < 4; what++) {
                c.due("choice(" + p + ", " + what + ")", c.m.choice(p, what), wanted[p][what]);
            }
        }
        for (int wrong : new int[] {-1, 3, LOW, HIGH}) {
            c.due("choice(" + wrong + ", 0)", c.m.choice(wrong, 0), BAD);
        }
        for (int wrong : new int[] {-1, 4, LOW, HIGH}) {
            c.due("choice(0, " + wrong + ")", c.m.choice(0, wrong), BAD);
        }
        c.run(1, 2).due("choice(0, 0)", c.m.choice(0, 0), 2);
        c.due("choice(0, 1)", c.m.choice(0, 1), 2);
        c.run(1, 2).run(1, 2).due("choice(0, 0)", c.m.choice(0, 0), 6);
        c.run(1, 2).due("choice(0, 0)", c.m.choice(0, 0), 1);
        c.due("choice(1, 0)", c.m.choice(1, 0), 1);
        c.due("choice(2, 0)", c.m.choice(2, 0), BAD);
    }
}

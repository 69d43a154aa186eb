/** The boundary cases of THE TEXT: what fault, consult and ask make of it. */
public final class BoundariesOfTextTest {
    private static final int BAD = Sentences.BAD, STATE = Sentences.STATE, FULL = Sentences.FULL, NONE = Sentences.NONE;

    private static final String TEXT = "promises 4, 5 and 14, THE TEXT";
    private static final String FAULT = "promise 4, the fault of a text";

    public static void main(String[] args) {
        all();
        Checks.finish("BoundariesOfTextTest");
    }

    static void all() {
        buffer();
        clausesAndQueries();
        goalsAndTerms();
        parts();
        spacesAndNames();
        faults();
        faultsOfHeads();
        faultsOfCounts();
    }

    /** A clause, and a query, with this term as its only argument: the fault of the term at its place. */
    private static void termFaults(Checks c, String term, int place) {
        int fault = place == NONE ? NONE : place + 2;
        c.faults("p(" + term + ").", fault, fault);
    }

    private static void buffer() {
        Sentences.test("promise 2, THE TEXT", "The text is a buffer of at most 120 characters, empty at first.", c -> {
            c.told(4, 0).fault(0, NONE).fault(1, 0);
            for (int i = 1; i <= 120; i++) {
                c.due("write(32)", c.m.write(32), i);
            }
            c.due("write(32)", c.m.write(32), FULL);
            c.told(4, 120).fault(0, NONE).fault(1, 120);
        });
    }

    private static void clausesAndQueries() {
        Sentences.test(TEXT, "clauses = any number of clauses, possibly none", c -> {
            c.faults("", NONE, 0).faults(" ", NONE, 1).faults("a.", NONE, NONE).faults("a.b.", NONE, 2);
            c.faults("a.".repeat(20), NONE, 2).consult("", 0).consult("   ", 0).consult("a.", 1).consult("a.b.c.", 3).told(0, 4);
        });
        Sentences.test(TEXT, "clause = goal . or goal :- goals .", c -> {
            c.faults("p.", NONE, NONE).faults("p:-q.", NONE, 1).faults("p:-q,r.", NONE, 1).faults("p", 1, 1).faults("p:-q", 4, 1);
            c.faults("p,q.", 1, NONE).faults("p:-.", 3, 1).faults("p:-q:-r.", 4, 1).faults(":-q.", 0, 0).faults("p q.", 2, 2);
            c.faults("p..", 2, 2).faults("p(1):-q(2).p(3).", NONE, 4);
        });
        Sentences.test(TEXT, "query = goals .", c -> {
            c.faults("p.", NONE, NONE).faults("p,q.", 1, NONE).faults("p", 1, 1).faults("p,q", 1, 3).faults(".", 0, 0);
            c.faults("p. ", NONE, NONE).faults("p.q.", NONE, 2).faults("p.q", 3, 2).faults("p:-q.", NONE, 1).faults("p. .", 3, 3);
            c.ask("p.q.", STATE).ask("p,q.", 2);
        });
        Sentences.test(TEXT, "goals = 1 to 5 goals, separated by commas", c -> {
            c.faults("h:-a.", NONE, 1).faults("h:-a,b,c,d,e.", NONE, 1).faults("h:-a,b,c,d,e,f.", 12, 1).faults("h:-.", 3, 1);
            c.faults("a.", NONE, NONE).faults("a,b,c,d,e.", 1, NONE).faults("a,b,c,d,e,f.", 1, 9).faults(".", 0, 0);
            c.faults("h:-a b.", 5, 1).faults("a b.", 2, 2).faults("h:-a,.", 5, 1).faults("a,,b.", 1, 2).faults("h:-a|b.", 4, 1);
        });
    }

    private static void goalsAndTerms() {
        Sentences.test(TEXT, "goal = name or name ( terms )", c -> {
            c.faults("p.", NONE, NONE).faults("p(a).", NONE, NONE).faults("p(a,b,c).", NONE, NONE).faults("p().", 2, 2);
            c.faults("X.", 0, 0).faults("1.", 0, 0).faults("[].", 0, 0).faults("[a].", 0, 0).faults("(a).", 0, 0);
            c.faults("p:-X.", 3, 1).faults("p:-1.", 3, 1).faults("p:-[].", 3, 1).faults("p(a)(b).", 4, 4).faults("p(a", 3, 3);
        });
        Sentences.test(TEXT, "terms = 1 to 3 terms, separated by commas", c -> {
            c.faults("p(a).", NONE, NONE).faults("p(a,b).", NONE, NONE).faults("p(a,b,c).", NONE, NONE).faults("p(a,b,c,d).", 7, 7);
            c.faults("p().", 2, 2).faults("p(,a).", 2, 2).faults("p(a,).", 4, 4).faults("p(a b).", 4, 4).faults("p(a|b).", 3, 3);
            c.faults("p(f(a,b,c)).", NONE, NONE).faults("p(f(a,b,c,d)).", 9, 9).faults("p(f()).", 4, 4);
        });
        Sentences.test(TEXT, "term = integer or variable or name or name ( terms ) or [ ] or [ items ] or [ items | term ]", c -> {
            for (String term : new String[] {"1", "X", "a", "f(a)", "f(X,1,[])", "[]", "[a]", "[a|X]", "[[]|[]]", "f(f(f(a)))"}) {
                termFaults(c, term, NONE);
            }
            termFaults(c, "", 0);
            termFaults(c, ".", 0);
            termFaults(c, ":-", 0);
            termFaults(c, "|", 0);
            termFaults(c, "(a)", 0);
            termFaults(c, "X(a)", 1);
            termFaults(c, "1(a)", 1);
            termFaults(c, "[](a)", 2);
            termFaults(c, "[a](b)", 3);
            termFaults(c, "[|a]", 1);
            termFaults(c, "[a|]", 3);
            termFaults(c, "[a|b,c]", 4);
            termFaults(c, "[a|b|c]", 4);
        });
        Sentences.test(TEXT, "items = 1 or more terms, separated by commas", c -> {
            String items = "a,".repeat(56) + "a";
            c.faults("p([" + items + "]).", NONE, NONE).consult("p([" + items + "]).", 1).listing(0, "p([" + items + "]).");
            termFaults(c, "[a]", NONE);
            termFaults(c, "[a,b,c,d,e,f]", NONE);
            termFaults(c, "[,a]", 1);
            termFaults(c, "[a,]", 3);
            termFaults(c, "[a,,b]", 3);
            termFaults(c, "[a b]", 3);
            termFaults(c, "[a,b|]", 5);
        });
        Sentences.test(TEXT, "[ items ] is the list of these items, and [ items | term ] the list that has these items first and is"
                + " followed by this term.", c -> {
            c.consult("p([a],[a|[]],[a,b|[]]).p([a,b|[c,d]],[a|b],[a,b|X]).p([[]|[[]]],[[]],[]).", 3);
            c.listing(0, "p([a],[a],[a,b]).").listing(1, "p([a,b,c,d],[a|b],[a,b|_0]).").listing(2, "p([[],[]],[[]],[]).");
        });
    }

    private static void parts() {
        Sentences.test(TEXT, "names, a letter from a to z with up to 5 further letters (a to z, A to Z) or digits", c -> {
            c.faults("a.", NONE, NONE).faults("z.", NONE, NONE).faults("`.", 0, 0).faults("{.", 0, 0).faults("A.", 0, 0);
            c.faults("abcdef.", NONE, NONE).faults("abcdefg.", 0, 0).faults("aaZz09.", NONE, NONE).faults("aAZaz9.", NONE, NONE);
            for (String wrong : new String[] {"`", "{", "@", "/", ";", "_", "'", "-"}) {
                c.faults("ab" + wrong + ".", 2, 2);
            }
            termFaults(c, "abcdef", NONE);
            termFaults(c, "abcdefg", 0);
            termFaults(c, "a23456", NONE);
            termFaults(c, "a234567", 0);
            c.consult("abcde.abcdef.abcdeF.abcde1.", 4).told(1, 4).listing(1, "abcdef.");
        });
        Sentences.test(TEXT, "variables, a letter from A to Z with up to 3 further letters or digits", c -> {
            for (String good : new String[] {"A", "Z", "ABCD", "Aaz0", "Z9Aa"}) {
                termFaults(c, good, NONE);
            }
            for (String wrong : new String[] {"ABCDE", "Abcde", "A1234", "@", "_A"}) {
                termFaults(c, wrong, 0);
            }
            termFaults(c, "A_", 1);
            termFaults(c, "A@", 1);
            c.consult("p(ABC,ABCD,ABCE,ABD,ABCd).", STATE).consult("p([ABC,ABCD,ABCE,ABD,ABCd]).", 1).clause(0, 1, 5);
        });
        Sentences.test(TEXT, "integers, 1 to 6 digits", c -> {
            for (String good : new String[] {"0", "9", "000000", "999999", "012345"}) {
                termFaults(c, good, NONE);
            }
            for (String wrong : new String[] {"1234567", "0000000", "-1", "/", ";"}) {
                termFaults(c, wrong, 0);
            }
            c.consult("p(0,000009,999999).", 1).listing(0, "p(0,9,999999).");
            c.ask("same(X,999999),is(Y,add(X,1)).", 2).run(2, 2).variable(0, 2, 999999).variable(1, 2, 1000000);
        });
        Sentences.test(TEXT, "and the characters . , ( ) [ ] | and :- (without a space between)", c -> {
            c.faults("p([a,b|c]):-q.", NONE, 10).faults("p: -q.", 1, 1).faults("p:q.", 1, 1).faults("p-q.", 1, 1).faults("p:--q.", 3, 1);
            c.faults("p::-q.", 1, 1).faults("p:- q.", NONE, 1).faults("p :-q.", NONE, 2);
        });
        Sentences.test(TEXT, "Names, variables and integers are as long as possible.", c -> {
            c.consult("ab12(abC,AbC,12).", 1).clause(0, 1, 1).clause(0, 3, 0).told(1, 1).listing(0, "ab12(abC,_0,12).");
            termFaults(c, "12ab", 2);
            termFaults(c, "12Ab", 2);
            termFaults(c, "1 2", 2);
            termFaults(c, "a b", 2);
            termFaults(c, "aB", NONE);
            termFaults(c, "Ab", NONE);
            termFaults(c, "abcdefAB", 0);
            termFaults(c, "ABCDab", 0);
            termFaults(c, "123456789012", 0);
        });
    }

    private static void spacesAndNames() {
        Sentences.test(TEXT, "Spaces may stand before and after each part.", c -> {
            c.faults("  p  (  X  ,  [  1  |  T  ]  ,  [  ]  )  :-  q  ,  r  (  a  )  .  ", NONE, 41);
            c.faults("p(X,[1|T],[]):-q,r(a).", NONE, 13).faults("  p  ,  q  (  X  )  .  ", 5, NONE);
            c.faults("p q.", 2, 2).faults("p: -q.", 1, 1).faults(" ", NONE, 1).consult("  a  .  b  .  ", 2);
            c.listing(0, "a.").listing(1, "b.");
        });
        Sentences.test(TEXT, "In one clause or query, variables with the same name are the same variable.", c -> {
            c.consult("p(X,X,Y):-q(Y,Ya,YA),r(YaB,X,y).q(X,Y).", 2).clause(0, 1, 5).clause(0, 2, 3).clause(1, 1, 2);
            c.listing(0, "p(_0,_0,_1):-q(_1,_2,_3),r(_4,_0,y).");
            c.ask("same(X,Y),same(X,1),same(Z,2).", 3).run(300, 2).value(0, "1").value(1, "1").value(2, "2");
            c.ask("same(X,1),same(X,2).", 2).run(300, 3).ask("same(X,1),same(X1,2).", 2).run(300, 2);
        });
    }

    private static void faults() {
        Sentences.test(FAULT, "The fault of a text is the position, from 0, of the first character of the first part that these rules do"
                + " not allow at its place, or the length of the text if it ends too early.", c -> {
            c.faults(")", 0, 0).faults(" )", 1, 1).faults("p  :-  ]", 7, 3).faults("p ( a ) q", 8, 8).faults("p.q(a.", 5, 2);
            c.faults("p:-q,:-", 5, 1).faults("p(a) ) (", 5, 5).faults("p(ab:-", 4, 4);
            String[] early = {"p", "p(", "p(a", "p(a,", "p(a)", "p([", "p([a", "p([a,", "p([a|", "p([a|b", "p([]", "p(f(a)", "p ", "p( ", "p(a  "};
            for (String text : early) {
                c.faults(text, text.length(), text.length());
            }
            c.faults("p:-", 3, 1).faults("p:- ", 4, 1).faults("p:-q", 4, 1).faults("p:-q,", 5, 1).faults("q,", 1, 2).faults("q,  ", 1, 4);
            c.faults("p.q", 3, 2).faults("", NONE, 0).faults("   ", NONE, 3).faults("p. ", NONE, NONE);
            c.faults(" ".repeat(119) + "p", 120, 120).faults(" ".repeat(119) + ".", 119, 119).faults(" ".repeat(118) + "p.", NONE, NONE);
        });
        Sentences.test(FAULT, "a character that belongs to no part (also a : without a - directly after it)", c -> {
            for (char sign = 33; sign <= 126; sign++) {
                if (!Character.isLetterOrDigit(sign) && ".,()[]|".indexOf(sign) < 0) {
                    c.faults("p " + sign, 2, 2).faults("" + sign, 0, 0).faults("p(" + sign, 2, 2).faults("p." + sign, 2, 2);
                }
            }
            c.faults("p:", 1, 1).faults("p: ", 1, 1).faults("p:a.", 1, 1).faults("p: -a.", 1, 1).faults("p:-", 3, 1).faults("p:-a.", NONE, 1);
            c.faults("p::-", 1, 1).faults("p" + " ".repeat(118) + ":", 119, 119).faults("p" + " ".repeat(117) + ":-", 120, 118);
        });
        Sentences.test(FAULT, "a name, variable or integer with more letters or digits than allowed (its position is that of its first"
                + " character)", c -> {
            c.faults("abcdef.", NONE, NONE).faults("abcdefg.", 0, 0).faults("  abcdefg", 2, 2).faults("p.abcdefg", 2, 2);
            c.faults("p(a,abcdefg).", 4, 4).faults("p(a,abcdef).", NONE, NONE).faults("p:-abcdefg.", 3, 1).faults("p,abcdefg.", 1, 2);
            c.faults("p(a,ABCDE).", 4, 4).faults("p(a,ABCD).", NONE, NONE).faults("p(1234567", 2, 2).faults("p(123456", 8, 8);
            c.faults("p([a|1234567", 5, 5).faults("p(a" + "b".repeat(117), 2, 2).faults("a".repeat(120), 0, 0);
            c.faults("A".repeat(120), 0, 0).faults("p(" + "1".repeat(118), 2, 2);
        });
    }

    private static void faultsOfHeads() {
        Sentences.test(FAULT, "the name true, fail or cut as a whole head (at this name, if no opening parenthesis follows, whatever else"
                + " follows or the text ends)", c -> {
            for (String name : new String[] {"true", "fail", "cut"}) {
                int end = name.length();
                c.faults(name + ".", 0, NONE).faults(name, 0, end).faults(name + "  ", 0, end + 2).faults(name + ":-a.", 0, end);
                c.faults(name + "$", 0, end).faults(name + ")", 0, end).faults(name + ":", 0, end).faults(name + " abcdefg", 0, end + 1);
                c.faults(name + "[", 0, end).faults(" a. " + name + " .", 4, 4).faults(name + " 1234567", 0, end + 1);
                c.faults(name + "(", end + 1, end + 1).faults(name + "  (", end + 3, end + 3).faults(name + "(a", end + 2, end + 2);
                c.faults(name + "(a).", NONE, NONE).faults(name + "  (a,b).", NONE, NONE).faults("p:-" + name + ".", NONE, 1);
                c.faults("p(" + name + ").", NONE, NONE).faults(name + "x.", NONE, NONE);
                c.faults(" ".repeat(120 - end) + name, 120 - end, 120).consult(name + ".", STATE);
            }
            c.faults("call.", NONE, NONE).faults("not.", NONE, NONE).faults("same.", NONE, NONE).faults("is", 2, 2);
        });
        Sentences.test(FAULT, "the parenthesis that closes the head of a clause, if its predicate then is built in", c -> {
            c.faults("call(a).", 6, NONE).faults("not(a).", 5, NONE).faults("same(a,b).", 8, NONE).faults("less(a,b).", 8, NONE);
            c.faults("is(a,b).", 6, NONE).faults("call( f(a) ) :- a.", 11, 13).faults("a.call(a).", 8, 2).faults("is([a,b],f(a,b,c))", 17, 18);
            c.faults("call(a", 6, 6).faults("call(a,b).", NONE, NONE).faults("same(a).", NONE, NONE).faults("same(a,b", 8, 8);
            c.faults("same(a,b,c).", NONE, NONE).faults("not(a,b).", NONE, NONE).faults("less(a,b,c).", NONE, NONE).faults("is(a).", NONE, NONE);
            c.faults("p(call(a)).", NONE, NONE).faults("p:-call(a).", NONE, 1).faults("p(is(a,b),not(c)).", NONE, NONE);
            c.faults("calls(a).", NONE, NONE).faults("call(call(a),b).", NONE, NONE).faults("call(call(a)).", 12, NONE);
        });
    }

    private static void faultsOfCounts() {
        Sentences.test(FAULT, "a fourth argument and a sixth goal (at the comma before it)", c -> {
            c.faults("p(a,b,c).", NONE, NONE).faults("p(a,b,c,d).", 7, 7).faults("p(a,b,c , ", 8, 8).faults("p(a,b,c", 7, 7);
            c.faults("p(f(a,b,c,d)).", 9, 9).faults("p(a,b,[c,d,e,f]).", NONE, NONE).faults("p(a,b,f(c,d,e)).", NONE, NONE);
            c.faults("call(a,b,c,d).", 10, 10).faults("h:-p(a,b,c,d).", 10, 1);
            c.faults("h:-a,b,c,d,e.", NONE, 1).faults("h:-a,b,c,d,e,f.", 12, 1).faults("h:-a,b,c,d,e ,", 13, 1).faults("h:-a,b,c,d,e", 12, 1);
            c.faults("a,b,c,d,e.", 1, NONE).faults("a,b,c,d,e,f.", 1, 9).faults("a,b,c,d,e , $", 1, 10).faults("a,b,c,d,e", 1, 9);
        });
        Sentences.test(FAULT, "the ninth different variable of a clause or query", c -> {
            c.faults("p([A,B,C,D,E,F,G,H]).", NONE, NONE).faults("p([A,B,C,D,E,F,G,H,I]).", 19, 19);
            c.faults("p([A,B,C,D,E,F,G,H,A,H]).", NONE, NONE).faults("p([A,B,C,D,E,F,G,H,A , I", 23, 23);
            c.faults("p(A,B,C):-q(D,E,F),r(G,H).", NONE, 8).faults("p(A,B,C):-q(D,E,F),r(G,H,I).", 25, 8);
            c.faults("p(A,B,C),q(D,E,F),r(G,H).", 8, NONE).faults("p(A,B,C),q(D,E,F),r(G,H,A),s(I).", 8, 29);
            c.faults("p([A,B,C,D,E,F,G,H]).p([I,J,K,L,M,N,O,P]).", NONE, 21);
            c.consult("p([A,B,C,D,E,F,G,H]).", 1).clause(0, 1, 8).consult("p([A,B,C,D,E,F,G,H,I]).", STATE);
            c.ask("p([A,B,C,D,E,F,G,H]).", 1).state(5, 8).variable(7, 3, 7).variable(8, 3, BAD);
        });
        Sentences.test(FAULT, "the first part of a clause that would be the 21st one of the program.", c -> {
            c.faults("a.".repeat(20), NONE, 2).faults("a.".repeat(20) + "   ", NONE, 2).faults("a.".repeat(20) + "  a", 42, 2);
            c.faults("a.".repeat(21), 40, 2).faults("a.".repeat(20) + ")", 40, 2).faults("a.".repeat(20) + " $", 41, 2);
            c.consult("a.".repeat(19), 19).faults("b.", NONE, NONE).faults("b.c.", 2, 2).faults("b. abcdefg", 3, 3).faults("b", 1, 1);
            c.consult("b.", 1).faults("c.", 0, NONE).faults("  c.", 2, NONE).faults("", NONE, 0).faults("  ", NONE, 2).faults("true", 0, 4);
            c.consult("c.", STATE).retract(0, 19).consult("c.", 1).told(0, 20);
        });
    }
}

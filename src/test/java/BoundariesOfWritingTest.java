/** The boundary cases of WRITING TERMS, which listing, value and goal show. */
public final class BoundariesOfWritingTest {
    private static final int NONE = Sentences.NONE;

    private static final String WRITING = "promises 11, 19 and 20, WRITING TERMS";

    public static void main(String[] args) {
        all();
        Checks.finish("BoundariesOfWritingTest");
    }

    static void all() {
        numbersAndNames();
        listsAndVariables();
        longTexts();
    }

    private static void numbersAndNames() {
        Sentences.test(WRITING, "A term is written with its present bindings", c -> {
            c.consult("p(X,Y):-q(f(X,[Y|Z])).q(X).", 2).ask("p(A,B),same(A,C),same(C,1).", 3).value(0, "_0").goal("p(_0,_1)");
            c.run(1, 1).goal("q(f(_0,[_1|_2]))").run(2, 1).value(0, "_0").value(2, "_0").goal("same(_0,1)").run(1, 2);
            c.value(0, "1").value(2, "1").value(1, "_0").run(1, 3).value(0, "_0").listing(0, "p(_0,_1):-q(f(_0,[_1|_2])).");
        });
        Sentences.test(WRITING, "an integer in decimal digits, with a minus sign if it is negative", c -> {
            c.ask("is(A,sub(0,1)),is(B,mul(65536,32768)),is(C,sub(B,1)),is(D,sub(1,1)),is(E,sub(0,10)).", 5).run(5, 2);
            c.value(0, "-1").value(1, "-2147483648").value(2, "2147483647").value(3, "0").value(4, "-10");
            c.consult("p(0,000,000010).p(9,10,999999).p(100,101,099).", 3).listing(0, "p(0,0,10).").listing(1, "p(9,10,999999).");
            c.listing(2, "p(100,101,99).");
            c.ask("is(A,mul(100000,10000)),is(B,sub(A,1)),is(C,sub(0,A)).", 3).run(3, 2).value(0, "1000000000").value(1, "999999999");
            c.value(2, "-1000000000");
        });
        Sentences.test(WRITING, "a name with its arguments in parentheses, separated by commas", c -> {
            c.consult("p:-q,r(a),s(a,b),t(abcdef,b2C,c),f(f(f(a))).", 1);
            c.listing(0, "p:-q,r(a),s(a,b),t(abcdef,b2C,c),f(f(f(a))).").ask("p.", 1).goal("p");
            c.ask("same(X,f(a,g(b,[]),h)),same(Y,a).", 2).run(2, 2).value(0, "f(a,g(b,[]),h)").value(1, "a");
        });
        Sentences.test(WRITING, "There are no spaces.", c -> {
            c.consult("  p  (  X  ,  [  a  ,  b  |  X  ]  )  :-  q  (  1  ,  [  ]  )  ,  r  .  ", 1).listing(0, "p(_0,[a,b|_0]):-q(1,[]),r.");
            c.ask("  same  (  X  ,  f  (  [  1  ,  Y  |  Z  ]  ,  2  )  )  .  ", 1).goal("same(_0,f([1,_1|_2],2))").run(1, 2);
            c.value(0, "f([1,_0|_1],2)");
        });
    }

    private static void listsAndVariables() {
        Sentences.test(WRITING, "lists as [a,b], or as [a,b|T] if they do not end with []", c -> {
            c.consult("p([],[a],[a,b]).p([a|b],[a,b|X],[a|[b|[c|d]]]).p([[]],[[a]|[b]],[a|f(b)]).p([a|[]],[[]|[]],[1|2]).", 4);
            c.listing(0, "p([],[a],[a,b]).").listing(1, "p([a|b],[a,b|_0],[a,b,c|d]).").listing(2, "p([[]],[[a],b],[a|f(b)]).");
            c.listing(3, "p([a],[[]],[1|2]).");
            c.ask("same(X,[1|Y]),same(Y,[2|Z]),same(Z,[]).", 3).run(1, 1).value(0, "[1|_0]").run(1, 1).value(0, "[1,2|_0]");
            c.run(1, 2).value(0, "[1,2]").value(1, "[2]").value(2, "[]");
        });
        Sentences.test(WRITING, "a variable without a binding as _ and a number: 0 for the first one that is written in this text, 1 for the next"
                + " different one, and so on.", c -> {
            c.consult("p(B,A,B):-q(C,A,B),r(D).q(X).", 2).listing(0, "p(_0,_1,_0):-q(_2,_1,_0),r(_3).").listing(1, "q(_0).");
            c.ask("r(A),same(C,f(D,B,D)),same(E,F).", 3).value(0, "_0").value(5, "_0").goal("r(_0)");
            c.ask("same(C,f(D,B,D)),same(E,f(B,F)).", 2).run(2, 2).value(0, "f(_0,_1,_0)").value(3, "f(_0,_1)").value(2, "_0");
            c.consult("t([A,B,C,D,E,F|X],X).", 1).ask("t(L,M),t(M,N).", 2).run(2, 2);
            c.value(0, "[_0,_1,_2,_3,_4,_5,_6,_7,_8,_9,_10,_11|_12]").value(1, "[_0,_1,_2,_3,_4,_5|_6]");
        });
    }

    private static void longTexts() {
        Sentences.test(WRITING, "If the text is longer than 120 characters, only the first 120 are kept.", c -> {
            c.consult("l([" + "a,".repeat(27) + "a|T],T).", 1);
            for (String end : new String[] {"b", "bc", "bcd", "bcde", "bcdef", "bcdefg", "bcde,gh", "bcde,ghi", "b,c,d,e,f"}) {
                // values of 115 to 123 characters, goals of 118 to 126
                String value = "[" + "a,".repeat(56) + end + "]";
                c.ask("l(X,Y),l(Y,[" + end + "]),p(X).", 3).run(2, 1);
                keepsFirst(c, 0, value);
                keepsFirst(c, 1, "p(" + value + ")");
                // listings of 114 to 122 characters: each X is written with one character more
                String items = "p([" + "a,".repeat(46) + "X,X,X,X,X," + end;
                if (items.length() <= 117) {
                    c.consult(items + "]).", 1);
                    keepsFirst(c, 2, items.replace("X", "_0") + "]).");
                    c.undo(1);
                }
            }
        });
        Sentences.test(WRITING, "only the first 120 are kept", c -> {
            c.consult("l([a|T]):-l(T).n(f(X)):-n(X).v(X,[X|T]):-v(Y,T).", 3);
            c.ask("l(X).", 1).run(57, 1).value(0, "[" + "a,".repeat(56) + "a|_0]").run(1, 1).value(0, "[" + "a,".repeat(57) + "a|_0]");
            c.run(1, 1).value(0, "[" + "a,".repeat(58) + "a|_").run(1, 1).value(0, "[" + "a,".repeat(59) + "a").run(1, 1);
            c.value(0, "[" + "a,".repeat(59) + "a").run(200, 1).value(0, "[" + "a,".repeat(59) + "a");
            c.ask("n(X).", 1).run(39, 1).value(0, "f(".repeat(39) + "_0" + ")".repeat(39)).run(1, 1).value(0, "f(".repeat(40) + "_0" + ")".repeat(38));
            c.run(19, 1).value(0, "f(".repeat(59) + "_0").run(1, 1).value(0, "f(".repeat(60)).run(100, 1).value(0, "f(".repeat(60));
            c.ask("v(A,X).", 1).run(200, 1);
            StringBuilder all = new StringBuilder("[");
            for (int i = 0; i < 60; i++) {
                all.append('_').append(i).append(',');
            }
            c.value(1, all.substring(0, 120));
        });
    }

    /** Whether the value of the first variable (0), the goal (1), or the listing of clause 1 (2) shows this text. */
    private static void keepsFirst(Checks c, int what, String text) {
        String kept = text.substring(0, Math.min(120, text.length()));
        if (what == 0) {
            c.value(0, kept);
            c.due("value(0, 120)", c.m.value(0, 120), NONE);
        } else if (what == 1) {
            c.goal(kept);
            c.due("goal(120)", c.m.goal(120), NONE);
        } else {
            c.listing(1, kept);
            c.due("listing(1, 120)", c.m.listing(1, 120), NONE);
        }
    }
}

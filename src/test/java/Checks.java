/** What the tests of the project have in common: answers that are due, and texts that are typed and shown. */
class Checks {
    private static int wrong;
    private static int checked;

    final String name;
    final LogicMachine m;

    Checks(String name) {
        this.name = name;
        m = new LogicMachine();
    }

    void due(String call, long got, long want) {
        checked++;
        if (got != want) {
            wrong++;
            System.out.println(name + ": " + call + " answered " + got + ", due is " + want);
        }
    }

    void due(String call, String got, String want) {
        checked++;
        if (!got.equals(want)) {
            wrong++;
            System.out.println(name + ": " + call + " answered '" + got + "', due is '" + want + "'");
        }
    }

    /** Puts this text in place of the present one. */
    Checks type(String text) {
        m.wipe();
        for (char c : text.toCharArray()) {
            m.write(c);
        }
        due("told(4) after " + text, m.told(4), text.length());
        return this;
    }

    Checks consult(String text, int want) {
        type(text);
        due("consult() of " + text, m.consult(), want);
        return this;
    }

    Checks retractAll() {
        for (int left = m.told(0); left > 0; left--) {
            due("retract(0)", m.retract(0), left - 1);
        }
        return this;
    }

    Checks ask(String text, int want) {
        type(text);
        due("ask() of " + text, m.ask(), want);
        return this;
    }

    Checks run(int n, int want) {
        due("run(" + n + ")", m.run(n), want);
        return this;
    }

    Checks state(int what, int want) {
        due("state(" + what + ")", m.state(what), want);
        return this;
    }

    Checks states(int... wanted) {
        for (int what = 0; what < wanted.length; what++) {
            state(what, wanted[what]);
        }
        return this;
    }

    Checks fault(int how, int want) {
        due("fault(" + how + ")", m.fault(how), want);
        return this;
    }

    Checks told(int what, int want) {
        due("told(" + what + ")", m.told(what), want);
        return this;
    }

    Checks clause(int c, int what, int want) {
        due("clause(" + c + ", " + what + ")", m.clause(c, what), want);
        return this;
    }

    Checks overlaps(int c, int want) {
        due("overlaps(" + c + ")", m.overlaps(c), want);
        return this;
    }

    Checks reaches(int c, int d, int want) {
        due("reaches(" + c + ", " + d + ")", m.reaches(c, d), want);
        return this;
    }

    Checks retract(int c, int want) {
        due("retract(" + c + ")", m.retract(c), want);
        return this;
    }

    Checks move(int c, int to, int want) {
        due("move(" + c + ", " + to + ")", m.move(c, to), want);
        return this;
    }

    Checks undo(int want) {
        due("undo()", m.undo(), want);
        return this;
    }

    Checks stop(int want) {
        due("stop()", m.stop(), want);
        return this;
    }

    Checks variable(int v, int what, int want) {
        due("variable(" + v + ", " + what + ")", m.variable(v, what), want);
        return this;
    }

    /** The properties of a frame, from the first one on. */
    Checks frame(int f, int... wanted) {
        for (int what = 0; what < wanted.length; what++) {
            due("frame(" + f + ", " + what + ")", m.frame(f, what), wanted[what]);
        }
        return this;
    }

    /** The properties of a choice point, from the first one on. */
    Checks choice(int p, int... wanted) {
        for (int what = 0; what < wanted.length; what++) {
            due("choice(" + p + ", " + what + ")", m.choice(p, what), wanted[what]);
        }
        return this;
    }

    Checks faults(String text, int asClauses, int asQuery) {
        type(text);
        due("fault(0) of " + text, m.fault(0), asClauses);
        due("fault(1) of " + text, m.fault(1), asQuery);
        return this;
    }

    Checks value(int v, String want) {
        due("value(" + v + ")", shown(0, v), want);
        return this;
    }

    Checks goal(String want) {
        due("goal", shown(1, 0), want);
        return this;
    }

    Checks listing(int c, String want) {
        due("listing(" + c + ")", shown(2, c), want);
        return this;
    }

    /** A text that the machine shows character by character. */
    private String shown(int what, int which) {
        StringBuilder s = new StringBuilder();
        for (int k = 0; k < 130; k++) {
            int c = what == 0 ? m.value(which, k) : what == 1 ? m.goal(k) : m.listing(which, k);
            if (c < 0) {
                due("the end of a text", c, LogicMachine.NONE);
                return s.toString();
            }
            s.append((char) c);
        }
        return s.toString();
    }

    /** Makes a call that is written as in the document, as "clause(0, 4)". */
    int call(String call) throws ReflectiveOperationException {
        String name = call.substring(0, call.indexOf('('));
        String inner = call.substring(call.indexOf('(') + 1, call.length() - 1);
        String[] texts = inner.isEmpty() ? new String[0] : inner.split(", *");
        Class<?>[] types = new Class<?>[texts.length];
        Object[] values = new Object[texts.length];
        for (int i = 0; i < texts.length; i++) {
            types[i] = int.class;
            values[i] = Integer.valueOf(texts[i]);
        }
        return (Integer) LogicMachine.class.getMethod(name, types).invoke(m, values);
    }

    static int wrong() {
        return wrong;
    }

    static void finish(String test) {
        System.out.println(test + ": " + checked + " answers checked, " + wrong + " wrong");
        if (wrong != 0) {
            System.exit(1);
        }
    }
}

import java.util.ArrayList;
import java.util.Arrays;
import java.util.LinkedHashMap;
import java.util.LinkedHashSet;
import java.util.List;
import java.util.Map;
import java.util.Set;

/**
 * A second machine, written from the document alone and as plainly as can be: it copies terms, searches
 * recursively and keeps everything in collections. The tests compare LogicMachine with it.
 */
final class Oracle {
    static final int BAD = -1, STATE = -2, FULL = -3, NONE = -9;

    /** Thrown if a term grows so large that this plain machine should not go on with it. */
    static final class TooLarge extends RuntimeException {
        private static final long serialVersionUID = 1;
    }

    // ---- terms

    static class Term {
    }

    static final class Num extends Term {
        final int n;

        Num(int n) {
            this.n = n;
        }
    }

    static final class Var extends Term {
        final long born;
        Term to;

        Var(long born) {
            this.born = born;
        }
    }

    static final class Fun extends Term {
        final String name;
        final List<Term> args;

        Fun(String name, List<Term> args) {
            this.name = name;
            this.args = args;
        }

        String pred() {
            return name + "/" + args.size();
        }
    }

    static final Set<String> BUILTIN = Set.of("true/0", "fail/0", "cut/0", "call/1", "not/1", "same/2", "less/2", "is/2");

    static boolean isList(Fun f) {
        return f.name.equals("[]") || f.name.equals(".");
    }

    static final class Clause {
        Fun head;
        List<Fun> body = new ArrayList<>();
        Map<String, Var> vars = new LinkedHashMap<>();
        Map<String, Integer> uses = new LinkedHashMap<>();
    }

    // ---- reading

    static final class Fault extends RuntimeException {
        private static final long serialVersionUID = 1;
        final int at;

        Fault(int at) {
            this.at = at;
        }
    }

    static final class Part {
        final char kind; // n v i . , ( ) [ ] | : (for the neck) e (end) ? (wrong)
        final int at;
        final String s;

        Part(char kind, int at, String s) {
            this.kind = kind;
            this.at = at;
            this.s = s;
        }
    }

    static List<Part> parts(String t) {
        List<Part> out = new ArrayList<>();
        int i = 0;
        while (true) {
            while (i < t.length() && t.charAt(i) == ' ') i++;
            if (i == t.length()) {
                out.add(new Part('e', i, ""));
                return out;
            }
            char c = t.charAt(i);
            int j = i + 1;
            if (Character.isLetter(c)) {
                while (j < t.length() && Character.isLetterOrDigit(t.charAt(j))) j++;
                boolean lower = Character.isLowerCase(c);
                out.add(new Part(j - i > (lower ? 6 : 4) ? '?' : lower ? 'n' : 'v', i, t.substring(i, j)));
            } else if (Character.isDigit(c)) {
                while (j < t.length() && Character.isDigit(t.charAt(j))) j++;
                out.add(new Part(j - i > 6 ? '?' : 'i', i, t.substring(i, j)));
            } else if (c == ':' && j < t.length() && t.charAt(j) == '-') {
                j++;
                out.add(new Part(':', i, ":-"));
            } else if (".,()[]|".indexOf(c) >= 0) {
                out.add(new Part(c, i, "" + c));
            } else {
                out.add(new Part('?', i, "" + c));
            }
            i = j;
        }
    }

    private static final class Reading {
        final List<Part> parts;
        int p = 0;
        Clause c;

        Reading(String text) {
            parts = parts(text);
        }

        Part now() {
            return parts.get(p);
        }

        boolean is(char kind) {
            return now().kind == kind;
        }

        Part need(char kind) {
            if (!is(kind)) throw new Fault(now().at);
            return parts.get(p++);
        }

        Fun goal(boolean head) {
            Part name = now();
            if (!is('n')) throw new Fault(name.at);
            boolean opened = parts.get(p + 1).kind == '(';
            if (head && !opened && BUILTIN.contains(name.s + "/0")) throw new Fault(name.at);
            p++;
            if (!opened) return new Fun(name.s, List.of());
            return compound(name.s, head);
        }

        Fun compound(String name, boolean head) {
            need('(');
            List<Term> args = new ArrayList<>();
            args.add(term());
            while (is(',')) {
                if (args.size() == 3) throw new Fault(now().at);
                p++;
                args.add(term());
            }
            Fun f = new Fun(name, args);
            if (is(')') && head && BUILTIN.contains(f.pred())) throw new Fault(now().at);
            need(')');
            return f;
        }

        Term term() {
            Part x = now();
            switch (x.kind) {
                case 'i':
                    p++;
                    return new Num(Integer.parseInt(x.s));
                case 'v':
                    if (!c.vars.containsKey(x.s) && c.vars.size() == 8) throw new Fault(x.at);
                    p++;
                    c.uses.merge(x.s, 1, Integer::sum);
                    return c.vars.computeIfAbsent(x.s, k -> new Var(0));
                case 'n':
                    p++;
                    return is('(') ? compound(x.s, false) : new Fun(x.s, List.of());
                case '[':
                    p++;
                    return list();
                default:
                    throw new Fault(x.at);
            }
        }

        Term list() {
            if (is(']')) {
                p++;
                return new Fun("[]", List.of());
            }
            List<Term> items = new ArrayList<>();
            items.add(term());
            while (is(',')) {
                p++;
                items.add(term());
            }
            Term end = new Fun("[]", List.of());
            if (is('|')) {
                p++;
                end = term();
            }
            need(']');
            for (int i = items.size() - 1; i >= 0; i--) end = new Fun(".", List.of(items.get(i), end));
            return end;
        }

        void goals() {
            c.body.add(goal(false));
            while (is(',')) {
                if (c.body.size() == 5) throw new Fault(now().at);
                p++;
                c.body.add(goal(false));
            }
            need('.');
        }

        Clause clause() {
            c = new Clause();
            c.head = goal(true);
            if (is(':')) {
                p++;
                goals();
            } else {
                need('.');
            }
            return c;
        }

        Clause query() {
            c = new Clause();
            goals();
            need('e');
            return c;
        }
    }

    List<Clause> readClauses() {
        Reading r = new Reading(text.toString());
        List<Clause> out = new ArrayList<>();
        while (!r.is('e')) {
            if (program.size() + out.size() == 20) throw new Fault(r.now().at);
            out.add(r.clause());
        }
        return out;
    }

    // ---- the text and the program

    final StringBuilder text = new StringBuilder();
    List<Clause> program = new ArrayList<>();
    final List<List<Clause>> history = new ArrayList<>();

    int write(int c) {
        if (c < 32 || c > 126) return BAD;
        if (text.length() == 120) return FULL;
        text.append((char) c);
        return text.length();
    }

    int wipe() {
        int n = text.length();
        text.setLength(0);
        return n;
    }

    int fault(int how) {
        if (how != 0 && how != 1) return BAD;
        try {
            if (how == 0) readClauses();
            else new Reading(text.toString()).query();
            return NONE;
        } catch (Fault f) {
            return f.at;
        }
    }

    private void change(List<Clause> now) {
        history.add(program);
        if (history.size() > 6) history.remove(0);
        program = now;
        state = 0;
    }

    int consult() {
        if (fault(0) != NONE) return STATE;
        List<Clause> more = readClauses();
        List<Clause> all = new ArrayList<>(program);
        all.addAll(more);
        change(all);
        return more.size();
    }

    boolean has(int c) {
        return c >= 0 && c < program.size();
    }

    int retract(int c) {
        if (!has(c)) return BAD;
        List<Clause> all = new ArrayList<>(program);
        all.remove(c);
        change(all);
        return all.size();
    }

    int move(int c, int to) {
        if (!has(c) || !has(to)) return BAD;
        List<Clause> all = new ArrayList<>(program);
        all.add(to, all.remove(c));
        change(all);
        return to;
    }

    int undo() {
        if (history.isEmpty()) return STATE;
        program = history.remove(history.size() - 1);
        state = 0;
        return history.size();
    }

    static List<String> called(Clause c) {
        List<String> out = new ArrayList<>();
        for (Fun g : c.body) {
            Fun f = g;
            while (true) {
                out.add(f.pred());
                if (!f.pred().equals("call/1") && !f.pred().equals("not/1")) break;
                if (!(f.args.get(0) instanceof Fun) || isList((Fun) f.args.get(0))) break;
                f = (Fun) f.args.get(0);
            }
        }
        return out;
    }

    int told(int what) {
        Set<String> defined = new LinkedHashSet<>();
        for (Clause c : program) defined.add(c.head.pred());
        switch (what) {
            case 0:
                return program.size();
            case 1:
                return defined.size();
            case 2:
                Set<String> missing = new LinkedHashSet<>();
                for (Clause c : program) missing.addAll(called(c));
                missing.removeAll(defined);
                missing.removeAll(BUILTIN);
                return missing.size();
            case 3:
                return history.size();
            case 4:
                return text.length();
            default:
                return BAD;
        }
    }

    static int kind(Term t) {
        t = deref(t);
        if (t instanceof Var) return 1;
        if (t instanceof Num) return 2;
        return ((Fun) t).args.isEmpty() ? 3 : 4;
    }

    int clause(int c, int what) {
        if (!has(c) || what < 0 || what > 7) return BAD;
        Clause x = program.get(c);
        switch (what) {
            case 0:
                return x.body.size();
            case 1:
                return x.vars.size();
            case 2:
                int once = 0;
                for (int n : x.uses.values()) if (n == 1) once++;
                return once;
            case 3:
                for (int i = 0; i < program.size(); i++) if (program.get(i).head.pred().equals(x.head.pred())) return i;
                throw new IllegalStateException();
            case 4:
                return x.head.args.isEmpty() ? 0 : kind(x.head.args.get(0));
            case 5:
                return !x.body.isEmpty() && x.body.get(x.body.size() - 1).pred().equals(x.head.pred()) ? 1 : 0;
            case 6:
                return state == 0 ? 0 : tried[c];
            default:
                return state == 0 ? 0 : matched[c];
        }
    }

    String listing(int c) {
        Writing w = new Writing();
        Clause x = program.get(c);
        w.term(x.head);
        for (int i = 0; i < x.body.size(); i++) {
            w.out.append(i == 0 ? ":-" : ",");
            w.term(x.body.get(i));
        }
        w.out.append('.');
        return w.text();
    }

    int listing(int c, int k) {
        return has(c) && k >= 0 ? at(listing(c), k) : BAD;
    }

    private static int at(String s, int k) {
        return k < s.length() ? s.charAt(k) : NONE;
    }

    static boolean agree(Term a, Term b) {
        a = deref(a);
        b = deref(b);
        if (a instanceof Var || b instanceof Var) return true;
        if (a instanceof Num || b instanceof Num) return a instanceof Num && b instanceof Num && ((Num) a).n == ((Num) b).n;
        return ((Fun) a).pred().equals(((Fun) b).pred());
    }

    static boolean canMatch(Fun a, Fun b) {
        return a.pred().equals(b.pred()) && (a.args.isEmpty() || agree(a.args.get(0), b.args.get(0)));
    }

    int overlaps(int c) {
        if (!has(c)) return BAD;
        int n = 0;
        for (int i = 0; i < program.size(); i++)
            for (int j = i + 1; j < program.size(); j++)
                if (program.get(i).head.pred().equals(program.get(c).head.pred())
                        && canMatch(program.get(i).head, program.get(j).head)) n++;
        return n;
    }

    int reaches(int c, int d) {
        if (!has(c) || !has(d)) return BAD;
        Set<String> now = new LinkedHashSet<>(List.of(program.get(c).head.pred()));
        for (int steps = 1; steps <= 30; steps++) {
            Set<String> next = new LinkedHashSet<>();
            for (Clause x : program) if (now.contains(x.head.pred())) next.addAll(called(x));
            if (next.contains(program.get(d).head.pred())) return steps;
            now = next;
        }
        return NONE;
    }

    // ---- the query

    /** A list of goals, of which those from next on remain; for a not, clause is -2. */
    static final class Frame {
        final int clause;
        final List<Fun> goals;
        final List<Set<Var>> vars;
        final int next;
        final Frame under;
        final int cut;

        Frame(int clause, List<Fun> goals, List<Set<Var>> vars, int next, Frame under, int cut) {
            this.clause = clause;
            this.goals = goals;
            this.vars = vars;
            this.next = next;
            this.under = under;
            this.cut = cut;
        }

        int left() {
            return goals.size() - next;
        }

        int varsLeft() {
            if (clause == -2) return 0;
            Set<Var> all = new LinkedHashSet<>();
            for (int i = next; i < goals.size(); i++) all.addAll(vars.get(i));
            return all.size();
        }
    }

    static final class Choice {
        Frame top;
        Fun goal;
        List<Integer> left;
        long born;
        int trail;
    }

    static final Fun END = new Fun("end of a not", List.of());

    int state, error, inferences, solutions, tries, mostFrames, mostChoices;
    int[] tried = new int[20], matched = new int[20];
    Frame top;
    List<Choice> choices = new ArrayList<>();
    /** All bindings in order, and whether each is in the trail of the document. */
    List<Var> bindings = new ArrayList<>();
    List<Boolean> inTrail = new ArrayList<>();
    List<Var> queryVars = new ArrayList<>();
    long clock;
    long work;

    static Term deref(Term t) {
        while (t instanceof Var && ((Var) t).to != null) t = ((Var) t).to;
        return t;
    }

    Term copy(Term t, Map<Var, Var> map) {
        if (t instanceof Var) return map.get((Var) t);
        if (!(t instanceof Fun)) return t;
        List<Term> args = new ArrayList<>();
        for (Term a : ((Fun) t).args) args.add(copy(a, map));
        return new Fun(((Fun) t).name, args);
    }

    Map<Var, Var> fresh(Clause c) {
        Map<Var, Var> map = new LinkedHashMap<>();
        for (Var v : c.vars.values()) map.put(v, new Var(clock++));
        return map;
    }

    static void collect(Term t, Set<Var> out) {
        if (t instanceof Var) out.add((Var) t);
        else if (t instanceof Fun) for (Term a : ((Fun) t).args) collect(a, out);
    }

    Frame body(int number, Clause c, Map<Var, Var> map, Frame under, int cut) {
        List<Fun> goals = new ArrayList<>();
        List<Set<Var>> vars = new ArrayList<>();
        for (Fun g : c.body) {
            goals.add((Fun) copy(g, map));
            Set<Var> set = new LinkedHashSet<>();
            collect(g, set);
            vars.add(set);
        }
        return goals.isEmpty() ? under : new Frame(number, goals, vars, 0, under, cut);
    }

    int ask() {
        if (fault(1) != NONE) return STATE;
        Clause q = new Reading(text.toString()).query();
        state = 1;
        error = inferences = solutions = tries = mostFrames = mostChoices = 0;
        Arrays.fill(tried, 0);
        Arrays.fill(matched, 0);
        choices.clear();
        bindings.clear();
        inTrail.clear();
        clock = 0;
        Map<Var, Var> map = fresh(q);
        queryVars = new ArrayList<>(map.values());
        top = body(-1, q, map, null, 0);
        return q.body.size();
    }

    int stop() {
        if (state == 0) return STATE;
        int s = state;
        state = 0;
        return s;
    }

    void end(int how, int why) {
        state = how;
        error = why;
        top = null;
        choices.clear();
        bindings.clear();
        inTrail.clear();
        for (Var v : queryVars) v.to = null;
    }

    int run(int n) {
        if (n < 1 || n > 300) return BAD;
        if (state != 1 && state != 2) return STATE;
        work = 0;
        boolean failing = state == 2;
        state = 1;
        int made = 0;
        while (state == 1) {
            if (failing) {
                failing = !backtrack();
            } else if (top == null) {
                state = 2;
                solutions++;
            } else if (top.goals.get(top.next) == END) {
                while (choices.size() > top.cut) choices.remove(choices.size() - 1);
                failing = true;
            } else if (inferences == 300) {
                end(4, 3);
            } else if (made == n) {
                break;
            } else {
                made++;
                failing = !infer();
            }
        }
        return state;
    }

    int depth(Frame f) {
        return f == null ? 0 : 1 + depth(f.under);
    }

    /** False if the goal fails. */
    boolean infer() {
        inferences++;
        mostFrames = Math.max(mostFrames, depth(top));
        mostChoices = Math.max(mostChoices, choices.size());
        Frame f = top;
        Fun goal = f.goals.get(f.next);
        top = f.left() == 1 ? f.under : new Frame(f.clause, f.goals, f.vars, f.next + 1, f.under, f.cut);
        return call(goal, f.clause == -2 ? -1 : f.cut);
    }

    boolean call(Fun goal, int cut) {
        switch (goal.pred()) {
            case "true/0":
                return true;
            case "fail/0":
                return false;
            case "cut/0":
                if (cut >= 0) while (choices.size() > cut) choices.remove(choices.size() - 1);
                return true;
            case "same/2":
                return unify(goal.args.get(0), goal.args.get(1));
            case "is/2": {
                Integer v = value(goal.args.get(1));
                if (v == null) {
                    end(4, 2);
                    return true;
                }
                return unify(goal.args.get(0), new Num(v));
            }
            case "less/2": {
                Integer a = value(goal.args.get(0));
                Integer b = value(goal.args.get(1));
                if (a == null || b == null) {
                    end(4, 2);
                    return true;
                }
                return a < b;
            }
            case "call/1":
            case "not/1": {
                Term g = deref(goal.args.get(0));
                if (!(g instanceof Fun) || isList((Fun) g)) {
                    end(4, 1);
                    return true;
                }
                if (goal.name.equals("call")) return call((Fun) g, -1);
                int before = choices.size();
                choice(null, null);
                top = new Frame(-2, List.of((Fun) g, END), null, 0, top, before);
                return true;
            }
            default:
                return user(goal);
        }
    }

    void choice(Fun goal, List<Integer> left) {
        Choice c = new Choice();
        c.top = top;
        c.goal = goal;
        c.left = left;
        c.born = clock;
        c.trail = bindings.size();
        choices.add(c);
    }

    boolean user(Fun goal) {
        List<Integer> can = new ArrayList<>();
        for (int i = 0; i < program.size(); i++) if (canMatch(goal, program.get(i).head)) can.add(i);
        if (can.isEmpty()) return false;
        int cut = choices.size();
        int first = can.remove(0);
        if (!can.isEmpty()) choice(goal, can);
        return tryOne(first, goal, cut);
    }

    boolean tryOne(int c, Fun goal, int cut) {
        tries++;
        tried[c]++;
        Clause x = program.get(c);
        Map<Var, Var> map = fresh(x);
        if (!unify(copy(x.head, map), goal)) return false;
        matched[c]++;
        top = body(c, x, map, top, cut);
        return true;
    }

    /** False if what is tried fails again. */
    boolean backtrack() {
        if (choices.isEmpty()) {
            end(3, 0);
            return true;
        }
        Choice c = choices.get(choices.size() - 1);
        while (bindings.size() > c.trail) {
            bindings.remove(bindings.size() - 1).to = null;
            inTrail.remove(inTrail.size() - 1);
        }
        clock = c.born;
        top = c.top;
        if (c.goal == null) {
            choices.remove(choices.size() - 1);
            return true;
        }
        int next = c.left.remove(0);
        if (c.left.isEmpty()) choices.remove(choices.size() - 1);
        int cut = c.left.isEmpty() ? choices.size() : choices.size() - 1;
        return tryOne(next, c.goal, cut);
    }

    void bind(Var v, Term t) {
        v.to = t;
        bindings.add(v);
        inTrail.add(!choices.isEmpty() && v.born < choices.get(choices.size() - 1).born);
    }

    void labour() {
        if (++work > 3000000) throw new TooLarge();
    }

    boolean unify(Term a, Term b) {
        labour();
        a = deref(a);
        b = deref(b);
        if (a == b) return true;
        if (a instanceof Var && b instanceof Var) {
            Var x = (Var) a, y = (Var) b;
            if (x.born < y.born) bind(y, x);
            else bind(x, y);
            return true;
        }
        if (a instanceof Var) return !occurs((Var) a, b) && bound((Var) a, b);
        if (b instanceof Var) return !occurs((Var) b, a) && bound((Var) b, a);
        if (a instanceof Num || b instanceof Num) return agree(a, b);
        Fun f = (Fun) a, g = (Fun) b;
        if (!f.pred().equals(g.pred())) return false;
        for (int i = 0; i < f.args.size(); i++) if (!unify(f.args.get(i), g.args.get(i))) return false;
        return true;
    }

    boolean bound(Var v, Term t) {
        bind(v, t);
        return true;
    }

    boolean occurs(Var v, Term t) {
        labour();
        t = deref(t);
        if (t == v) return true;
        if (t instanceof Fun) for (Term a : ((Fun) t).args) if (occurs(v, a)) return true;
        return false;
    }

    Integer value(Term t) {
        labour();
        t = deref(t);
        if (t instanceof Num) return ((Num) t).n;
        if (t instanceof Var) return null;
        Fun f = (Fun) t;
        if (!Set.of("add/2", "sub/2", "mul/2").contains(f.pred())) return null;
        Integer a = value(f.args.get(0));
        Integer b = value(f.args.get(1));
        if (a == null || b == null) return null;
        return f.name.equals("add") ? a + b : f.name.equals("sub") ? a - b : a * b;
    }

    // ---- what the query shows

    int state(int what) {
        if (what < 0 || what > 12) return BAD;
        if (what == 0 || state == 0) return state;
        int sum = 0;
        switch (what) {
            case 1:
                return inferences;
            case 2:
                return solutions;
            case 3:
                return depth(top);
            case 4:
                for (Frame f = top; f != null; f = f.under) sum += f.left();
                return sum;
            case 5:
                for (Frame f = top; f != null; f = f.under) sum += f.varsLeft();
                return sum;
            case 6:
                return choices.size();
            case 7:
                for (Choice c : choices) if (c.goal == null) sum++;
                return sum;
            case 8:
                return trailFrom(0);
            case 9:
                return tries;
            case 10:
                return error;
            case 11:
                return mostFrames;
            default:
                return mostChoices;
        }
    }

    int trailFrom(int start) {
        int n = 0;
        for (int i = start; i < inTrail.size(); i++) if (inTrail.get(i)) n++;
        return n;
    }

    boolean hasVar(int v) {
        return state != 0 && v >= 0 && v < queryVars.size();
    }

    int variable(int v, int what) {
        if (!hasVar(v) || what < 0 || what > 3) return BAD;
        Term t = deref(queryVars.get(v));
        switch (what) {
            case 0:
                return t instanceof Var ? 0 : 1;
            case 1:
                return kind(t);
            case 2:
                return t instanceof Num ? ((Num) t).n : NONE;
            default:
                if (!(t instanceof Var)) return NONE;
                for (int i = 0; ; i++) if (deref(queryVars.get(i)) == t) return i;
        }
    }

    String value(int v) {
        Writing w = new Writing();
        w.term(queryVars.get(v));
        return w.text();
    }

    int value(int v, int k) {
        return hasVar(v) && k >= 0 ? at(value(v), k) : BAD;
    }

    String goal() {
        if (state == 0 || top == null) return "";
        Writing w = new Writing();
        w.term(top.goals.get(top.next));
        return w.text();
    }

    int goal(int k) {
        return k < 0 ? BAD : at(goal(), k);
    }

    int frame(int f, int what) {
        Frame x = state == 0 ? null : top;
        for (int i = 0; i < f && x != null; i++) x = x.under;
        if (f < 0 || x == null || what < 0 || what > 2) return BAD;
        return what == 0 ? x.left() : what == 1 ? x.varsLeft() : x.clause < 0 ? NONE : x.clause;
    }

    int choice(int p, int what) {
        if (state == 0 || p < 0 || p >= choices.size() || what < 0 || what > 3) return BAD;
        Choice c = choices.get(choices.size() - 1 - p);
        switch (what) {
            case 0:
                return c.goal == null ? NONE : c.left.get(0);
            case 1:
                return c.goal == null ? 0 : c.left.size();
            case 2:
                return depth(c.top);
            default:
                return trailFrom(c.trail);
        }
    }

    static final class Writing {
        final StringBuilder out = new StringBuilder();
        final List<Var> seen = new ArrayList<>();

        String text() {
            return out.length() > 120 ? out.substring(0, 120) : out.toString();
        }

        void term(Term t) {
            if (out.length() > 120) return;
            t = deref(t);
            if (t instanceof Num) {
                out.append(((Num) t).n);
            } else if (t instanceof Var) {
                if (!seen.contains(t)) seen.add((Var) t);
                out.append('_').append(seen.indexOf(t));
            } else if (((Fun) t).name.equals(".")) {
                list((Fun) t);
            } else {
                Fun f = (Fun) t;
                out.append(f.name);
                for (int i = 0; i < f.args.size(); i++) {
                    out.append(i == 0 ? '(' : ',');
                    term(f.args.get(i));
                }
                if (!f.args.isEmpty()) out.append(')');
            }
        }

        void list(Fun f) {
            out.append('[');
            term(f.args.get(0));
            Term rest = deref(f.args.get(1));
            while (rest instanceof Fun && ((Fun) rest).name.equals(".") && out.length() <= 120) {
                out.append(',');
                term(((Fun) rest).args.get(0));
                rest = deref(((Fun) rest).args.get(1));
            }
            if (!(rest instanceof Fun && ((Fun) rest).name.equals("[]"))) {
                out.append('|');
                term(rest);
            }
            out.append(']');
        }
    }
}

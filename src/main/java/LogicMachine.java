import java.util.Arrays;

/**
 * A machine for logic programs, written as clauses of a small Prolog.
 *
 * <p>The text is read into clauses (Text, Reader, Clause), the clauses are the program (Program), and
 * a query is searched for solutions in it (Search), over terms that are never copied: a called clause
 * is an instance with bindings of its own (Store).
 */
public final class LogicMachine {
    public static final int BAD = -1, STATE = -2, FULL = -3, NONE = -9;

    private static final int TEXT_LIMIT = 120;
    private static final int NAME_LIMIT = 6;
    private static final int VARIABLE_NAME_LIMIT = 4;
    private static final int DIGIT_LIMIT = 6;
    private static final int CLAUSE_LIMIT = 20;
    private static final int GOAL_LIMIT = 5;
    private static final int ARGUMENT_LIMIT = 3;
    private static final int VARIABLE_LIMIT = 8;
    private static final int HISTORY_LIMIT = 6;
    private static final int INFERENCE_LIMIT = 300;

    /** Stands far above the steps of any search through terms or candidates. */
    private static final int STEP_LIMIT = 1000000;

    /** The kinds of terms have the numbers that the document gives them; 0 is for no term. */
    private static final int NO_TERM = 0, VARIABLE = 1, INTEGER = 2, ATOM = 3, COMPOUND = 4;

    /** The states of a query. */
    private static final int NO_QUERY = 0, RUNNING = 1, SOLVED = 2, FAILED = 3, ENDED = 4;

    /** The errors with which a query ends. */
    private static final int NOT_CALLABLE = 1, NO_VALUE = 2, TOO_LONG = 3;

    /** The parts of a text; a part of one sign has the code of this sign. */
    private static final int PART_END = 0, PART_NAME = 1, PART_VARIABLE = 2, PART_INTEGER = 3,
            PART_NECK = 4, PART_WRONG = 5;

    /*
     * A name is a number with seven bits for each sign, the first sign in the lowest ones. The key of
     * an atom or compound is its name with the number of arguments in two bits below it, so that one
     * comparison tells whether two terms have the same name and number of arguments.
     */
    private static final int SIGN_BITS = 7, SIGN_MASK = 127, ARITY_BITS = 2, ARITY_MASK = 3;
    private static final long NAME_LIST = '.';
    private static final long KEY_NIL = ((long) '[' | ']' << 7) << 2;
    private static final long KEY_LIST = NAME_LIST << 2 | 2;
    private static final long KEY_TRUE = ((long) 't' | 'r' << 7 | 'u' << 14 | 'e' << 21) << 2;
    private static final long KEY_FAIL = ((long) 'f' | 'a' << 7 | 'i' << 14 | 'l' << 21) << 2;
    private static final long KEY_CUT = ((long) 'c' | 'u' << 7 | 't' << 14) << 2;
    private static final long KEY_CALL = ((long) 'c' | 'a' << 7 | 'l' << 14 | 'l' << 21) << 2 | 1;
    private static final long KEY_NOT = ((long) 'n' | 'o' << 7 | 't' << 14) << 2 | 1;
    private static final long KEY_SAME = ((long) 's' | 'a' << 7 | 'm' << 14 | 'e' << 21) << 2 | 2;
    private static final long KEY_LESS = ((long) 'l' | 'e' << 7 | 's' << 14 | 's' << 21) << 2 | 2;
    private static final long KEY_IS = ((long) 'i' | 's' << 7) << 2 | 2;
    private static final long KEY_ADD = ((long) 'a' | 'd' << 7 | 'd' << 14) << 2 | 2;
    private static final long KEY_SUB = ((long) 's' | 'u' << 7 | 'b' << 14) << 2 | 2;
    private static final long KEY_MUL = ((long) 'm' | 'u' << 7 | 'l' << 14) << 2 | 2;

    /** The predicates, as far as calling them differs. */
    private static final int USER = 0, TRUE = 1, FAIL = 2, CUT = 3, CALL = 4, NOT = 5, SAME = 6,
            LESS = 7, IS = 8;

    /*
     * A term in use is an int, called its ref: the number of its instance times SPAN, plus the number
     * of its node in the clause. The nodes of variables come first, so the ref of a variable is the
     * same wherever it occurs, and a greater one was created later. Refs below UNBOUND are computed
     * integers. A clause has fewer nodes than its text has characters, even with the nodes of eight
     * variables that it may not have.
     */
    private static final int SPAN_BITS = 7, SPAN = 128, SPAN_MASK = 127;
    private static final int UNBOUND = -1;

    /** The instance of the query, a spare one for listing a clause, and the first of a called clause. */
    private static final int QUERY = 0, SPARE = 1, FIRST_CALLED = 2;

    /** No query has more instances than one for each inference; most have few, so rows begin small. */
    private static final int MOST_INSTANCES = FIRST_CALLED + INFERENCE_LIMIT;
    private static final int INSTANCES_AT_FIRST = 20, GROWTH = 4;
    private static final int NO_REF = MOST_INSTANCES * SPAN;

    /** No clause has 60 compounds: each takes two characters at least, and a clause more besides. */
    private static final int COMPOUND_LIMIT = 60;
    private static final int PENDING_LIMIT = COMPOUND_LIMIT + 2 * VARIABLE_LIMIT;

    /** What stands in place of an instance in the frame of a not. */
    private static final int NOT_GOAL = -1, NOT_END = -2;

    private final Text text;
    private final Reader reader;
    private final Program program;
    private final Program[] past;
    private int changes;
    private final Search search;
    private final Writer writer;

    public LogicMachine() {
        text = new Text();
        reader = new Reader(text);
        Clause nothing = new Clause(reader);
        program = new Program(nothing);
        past = new Program[HISTORY_LIMIT];
        for (int i = 0; i < past.length; i++) {
            past[i] = new Program(nothing);
        }
        search = new Search(program, nothing);
        writer = new Writer(search.store);
    }

    // ---- the text

    public int write(int c) {
        if (c < 32 || c > 126) {
            return BAD;
        }
        if (text.length >= TEXT_LIMIT) {
            return FULL;
        }
        text.add(c);
        return text.length;
    }

    public int wipe() {
        int length = text.length;
        text.length = 0;
        return length;
    }

    public int fault(int how) {
        if (how == 0) {
            return reader.faultOfClauses(CLAUSE_LIMIT - program.size);
        }
        return how == 1 ? reader.faultOfQuery() : BAD;
    }

    // ---- the program

    public int consult() {
        if (reader.faultOfClauses(CLAUSE_LIMIT - program.size) != NONE) {
            return STATE;
        }
        recordChange();
        int before = program.size;
        text.restart();
        for (int i = before; i < CLAUSE_LIMIT && reader.readOne(false); i++) {
            program.append(new Clause(reader));
        }
        return program.size - before;
    }

    public int retract(int c) {
        if (!program.has(c)) {
            return BAD;
        }
        recordChange();
        program.removeAt(c);
        return program.size;
    }

    public int move(int c, int to) {
        if (!program.has(c) || !program.has(to)) {
            return BAD;
        }
        recordChange();
        program.shift(c, to);
        return to;
    }

    public int undo() {
        if (changes <= 0 || changes > past.length) {
            return STATE;
        }
        changes--;
        program.copyFrom(past[changes]);
        search.forget();
        return changes;
    }

    public int told(int what) {
        switch (what) {
            case 0:
                return program.size;
            case 1:
                return program.countPredicates();
            case 2:
                return program.countMissing();
            case 3:
                return changes;
            case 4:
                return text.length;
            default:
                return BAD;
        }
    }

    public int clause(int c, int what) {
        if (!program.has(c) || what < 0 || what > 7) {
            return BAD;
        }
        Clause clause = program.at(c);
        switch (what) {
            case 0:
                return clause.goals.length;
            case 1:
                return clause.variables;
            case 2:
                return clause.singles;
            case 3:
                return program.firstOf(clause.predicate());
            case 4:
                return clause.firstKind();
            case 5:
                return clause.endsWithOwnPredicate() ? 1 : 0;
            case 6:
                return search.triesOf(c);
            default:
                return search.matchesOf(c);
        }
    }

    public int listing(int c, int k) {
        if (!program.has(c) || k < 0) {
            return BAD;
        }
        writer.restart();
        writer.addClause(program.at(c));
        return writer.at(k);
    }

    public int overlaps(int c) {
        return program.has(c) ? program.countOverlaps(c) : BAD;
    }

    public int reaches(int c, int d) {
        return program.has(c) && program.has(d) ? program.stepsBetween(c, d) : BAD;
    }

    // ---- the query

    public int ask() {
        if (reader.faultOfQuery() != NONE) {
            return STATE;
        }
        Clause query = new Clause(reader);
        search.begin(query);
        return query.goals.length;
    }

    public int run(int n) {
        if (n < 1 || n > INFERENCE_LIMIT) {
            return BAD;
        }
        if (search.status != RUNNING && search.status != SOLVED) {
            return STATE;
        }
        return search.proceed(n);
    }

    public int stop() {
        int status = search.status;
        if (status == NO_QUERY) {
            return STATE;
        }
        search.forget();
        return status;
    }

    public int state(int what) {
        if (what < 0 || what > 12) {
            return BAD;
        }
        return search.status == NO_QUERY ? 0 : search.numberOf(what);
    }

    public int variable(int v, int what) {
        if (!search.hasVariable(v) || what < 0 || what > 3) {
            return BAD;
        }
        int found = search.store.find(v);
        int kind = search.store.kindOf(found);
        switch (what) {
            case 0:
                return kind == VARIABLE ? 0 : 1;
            case 1:
                return kind;
            case 2:
                return kind == INTEGER ? (int) search.store.keyOf(found) : NONE;
            default:
                return kind == VARIABLE ? search.lowestAlias(found) : NONE;
        }
    }

    public int value(int v, int k) {
        if (!search.hasVariable(v) || k < 0) {
            return BAD;
        }
        writer.restart();
        writer.addTerm(v);
        return writer.at(k);
    }

    public int goal(int k) {
        if (k < 0) {
            return BAD;
        }
        Frame top = search.top;
        if (top == null) {
            return NONE;
        }
        writer.restart();
        writer.addTerm(search.goalOf(top));
        return writer.at(k);
    }

    public int frame(int f, int what) {
        Frame found = search.frameAt(f);
        if (found == null) {
            return BAD;
        }
        switch (what) {
            case 0:
                return search.goalsLeft(found);
            case 1:
                return search.variablesLeft(found);
            case 2:
                return search.store.numberOf(found.instance);
            default:
                return BAD;
        }
    }

    public int choice(int p, int what) {
        Choice found = search.choiceAt(p);
        if (found == null) {
            return BAD;
        }
        switch (what) {
            case 0:
                return found.isBarrier() ? NONE : lowestOf(found.left);
            case 1:
                return Integer.bitCount(found.left);
            case 2:
                return found.top == null ? 0 : found.top.depth;
            case 3:
                return search.store.trailed - found.trailed;
            default:
                return BAD;
        }
    }

    /** To be called before the program changes. */
    private void recordChange() {
        if (changes == past.length) {
            Program oldest = past[0];
            for (int i = 1; i < past.length; i++) {
                past[i - 1] = past[i];
            }
            changes--;
            past[changes] = oldest;
        }
        past[changes].copyFrom(program);
        changes++;
        search.forget();
    }

    private static int builtinOf(long key) {
        if (key == KEY_TRUE) {
            return TRUE;
        }
        if (key == KEY_FAIL) {
            return FAIL;
        }
        if (key == KEY_CUT) {
            return CUT;
        }
        if (key == KEY_CALL) {
            return CALL;
        }
        if (key == KEY_NOT) {
            return NOT;
        }
        if (key == KEY_SAME) {
            return SAME;
        }
        if (key == KEY_LESS) {
            return LESS;
        }
        return key == KEY_IS ? IS : USER;
    }

    /** Whether a term can be a goal: atoms and compounds can, but no lists. */
    private static boolean isCallable(int kind, long key) {
        return kind == ATOM && key != KEY_NIL || kind == COMPOUND && key != KEY_LIST;
    }

    /** Whether two first arguments, of a goal and a head or of two heads, do not exclude each other. */
    private static boolean canMatch(int kind, long key, int otherKind, long otherKey) {
        if (kind <= VARIABLE || otherKind <= VARIABLE) {
            return true;
        }
        return kind == otherKind && key == otherKey;
    }

    private static int arityOf(long key) {
        return (int) (key & ARITY_MASK);
    }

    /** The lowest clause of a set of clauses; 32 if there is none. */
    private static int lowestOf(int set) {
        return Integer.bitCount((set & -set) - 1);
    }

    /** The text, and its parts one after the other. */
    private static final class Text {
        private final char[] signs = new char[TEXT_LIMIT];
        int length;

        /** The present part, where it begins, and its name or value. */
        int part;
        int start;
        long content;

        private int next;

        void add(int sign) {
            if (length < signs.length) {
                signs[length] = (char) sign;
                length++;
            }
        }

        void restart() {
            next = 0;
            advance();
        }

        /** Goes to the next part. */
        void advance() {
            start = nextSign();
            next = start;
            if (start >= length) {
                part = PART_END;
                return;
            }
            char sign = signs[start];
            if (isLower(sign)) {
                readWord(PART_NAME, NAME_LIMIT);
            } else if (isUpper(sign)) {
                readWord(PART_VARIABLE, VARIABLE_NAME_LIMIT);
            } else if (isDigit(sign)) {
                readInteger();
            } else {
                readSign(sign);
            }
        }

        /** Whether the part behind the present one is an opening parenthesis. */
        boolean opensNext() {
            int position = nextSign();
            return position < length && signs[position] == '(';
        }

        private int nextSign() {
            int position = next;
            while (position < length && signs[position] == ' ') {
                position++;
            }
            return position;
        }

        private void readWord(int kind, int limit) {
            content = 0;
            while (next < length && isWordSign(signs[next])) {
                int place = next - start;
                if (place < limit) {
                    content |= (long) signs[next] << SIGN_BITS * place;
                }
                next++;
            }
            part = next - start <= limit ? kind : PART_WRONG;
        }

        private void readInteger() {
            content = 0;
            while (next < length && isDigit(signs[next])) {
                if (next - start < DIGIT_LIMIT) {
                    content = content * 10 + (signs[next] - '0');
                }
                next++;
            }
            part = next - start <= DIGIT_LIMIT ? PART_INTEGER : PART_WRONG;
        }

        private void readSign(char sign) {
            next = start + 1;
            switch (sign) {
                case '.':
                case ',':
                case '(':
                case ')':
                case '[':
                case ']':
                case '|':
                    part = sign;
                    return;
                default:
                    part = PART_WRONG;
            }
            if (sign == ':' && next < length && signs[next] == '-') {
                next++;
                part = PART_NECK;
            }
        }

        private static boolean isLower(char sign) {
            return sign >= 'a' && sign <= 'z';
        }

        private static boolean isUpper(char sign) {
            return sign >= 'A' && sign <= 'Z';
        }

        private static boolean isDigit(char sign) {
            return sign >= '0' && sign <= '9';
        }

        private static boolean isWordSign(char sign) {
            return isLower(sign) || isUpper(sign) || isDigit(sign);
        }
    }

    /**
     * Reads a text part by part, without recursion because terms may be nested as deep as the text is
     * long. If a part is not allowed, the text stays at this part, so that its start is the fault.
     */
    private static final class Reader {
        /** What is due next. */
        private static final int DUE_GOAL = 0, DUE_TERM = 1, DUE_ITEM = 2, DUE_SIGN = 3, DUE_NOTHING = 4;

        /** What an open compound waits for: arguments, items of a list, or the end behind its tail. */
        private static final int ARGUMENTS = 0, ITEMS = 1, TAIL = 2;

        private final Text text;

        /** The nodes of the clause that is read; Clause tells what they are. */
        final int[] kinds = new int[SPAN];
        final long[] keys = new long[SPAN];
        final int[] arguments = new int[SPAN * ARGUMENT_LIMIT];
        int used = VARIABLE_LIMIT;

        int head = NONE;
        final int[] goals = new int[GOAL_LIMIT];
        int goalCount;

        final long[] names = new long[VARIABLE_LIMIT];
        final int[] uses = new int[VARIABLE_LIMIT];
        int variables;

        /** A bit for each variable that occurs in the goal. */
        final int[] masks = new int[GOAL_LIMIT];

        private final int[] open = new int[TEXT_LIMIT];
        private final int[] modes = new int[TEXT_LIMIT];
        private int depth;

        private boolean asQuery;
        private int due;

        /** The node of the name that was read last, if an opening parenthesis may follow it. */
        private int named;

        Reader(Text text) {
            this.text = text;
            Arrays.fill(kinds, 0, VARIABLE_LIMIT, VARIABLE);
        }

        /** The fault of the text as clauses, if there is room for so many. */
        int faultOfClauses(int room) {
            text.restart();
            for (int count = 0; count <= room; count++) {
                if (text.part == PART_END) {
                    return NONE;
                }
                if (count == room || !readOne(false)) {
                    return text.start;
                }
            }
            return text.start;
        }

        /** The fault of the text as a query; if there is none, the query has been read. */
        int faultOfQuery() {
            text.restart();
            return readOne(true) && text.part == PART_END ? NONE : text.start;
        }

        /** Reads one clause, or one query, up to its point; false if that is not possible. */
        boolean readOne(boolean query) {
            begin(query);
            for (int count = 0; count <= TEXT_LIMIT && acceptPart(); count++) {
                text.advance();
                if (due == DUE_NOTHING) {
                    return true;
                }
            }
            return false;
        }

        private void begin(boolean query) {
            asQuery = query;
            used = VARIABLE_LIMIT;
            head = NONE;
            goalCount = 0;
            variables = 0;
            depth = 0;
            named = NONE;
            due = DUE_GOAL;
        }

        private boolean acceptPart() {
            switch (due) {
                case DUE_GOAL:
                    return acceptGoal();
                case DUE_TERM:
                    return acceptTerm();
                case DUE_ITEM:
                    return acceptFirstItem();
                case DUE_SIGN:
                    return acceptSign();
                default:
                    return false;
            }
        }

        private boolean acceptGoal() {
            if (text.part != PART_NAME) {
                return false;
            }
            boolean isHead = !asQuery && head == NONE;
            long key = text.content << ARITY_BITS;
            if (isHead && builtinOf(key) != USER && !text.opensNext()) {
                return false;
            }
            named = addNode(ATOM, key);
            if (isHead) {
                head = named;
            } else if (goalCount < GOAL_LIMIT) {
                goals[goalCount] = named;
                masks[goalCount] = 0;
                goalCount++;
            }
            due = DUE_SIGN;
            return true;
        }

        private boolean acceptTerm() {
            switch (text.part) {
                case PART_NAME:
                    named = addNode(ATOM, text.content << ARITY_BITS);
                    attach(named);
                    break;
                case PART_INTEGER:
                    attach(addNode(INTEGER, text.content));
                    break;
                case PART_VARIABLE:
                    int found = variableNamed(text.content);
                    if (found == NONE) {
                        return false;
                    }
                    attach(found);
                    break;
                case '[':
                    due = DUE_ITEM;
                    return true;
                default:
                    return false;
            }
            due = DUE_SIGN;
            return true;
        }

        private boolean acceptFirstItem() {
            if (text.part == ']') {
                attach(addNode(ATOM, KEY_NIL));
                due = DUE_SIGN;
                return true;
            }
            int list = addNode(COMPOUND, NAME_LIST << ARITY_BITS);
            attach(list);
            openUp(list, ITEMS);
            return acceptTerm();
        }

        private boolean acceptSign() {
            int whole = named;
            named = NONE;
            if (whole != NONE && text.part == '(') {
                openUp(whole, ARGUMENTS);
                due = DUE_TERM;
                return true;
            }
            if (depth <= 0) {
                return acceptBehindGoal();
            }
            switch (modes[depth - 1]) {
                case ARGUMENTS:
                    return acceptBehindArgument(open[depth - 1]);
                case ITEMS:
                    return acceptBehindItem();
                default:
                    depth--;
                    return text.part == ']';
            }
        }

        private boolean acceptBehindGoal() {
            switch (text.part) {
                case '.':
                    due = DUE_NOTHING;
                    return true;
                case ',':
                    due = DUE_GOAL;
                    return goalCount > 0 && goalCount < GOAL_LIMIT;
                case PART_NECK:
                    due = DUE_GOAL;
                    return !asQuery && goalCount == 0;
                default:
                    return false;
            }
        }

        private boolean acceptBehindArgument(int whole) {
            if (text.part == ')') {
                depth--;
                return whole != head || builtinOf(keys[whole]) == USER;
            }
            due = DUE_TERM;
            return text.part == ',' && arityOf(keys[whole]) < ARGUMENT_LIMIT;
        }

        private boolean acceptBehindItem() {
            switch (text.part) {
                case ',':
                    int list = addNode(COMPOUND, NAME_LIST << ARITY_BITS);
                    attach(list);
                    open[depth - 1] = list;
                    due = DUE_TERM;
                    return true;
                case '|':
                    modes[depth - 1] = TAIL;
                    due = DUE_TERM;
                    return true;
                case ']':
                    attach(addNode(ATOM, KEY_NIL));
                    depth--;
                    return true;
                default:
                    return false;
            }
        }

        private void openUp(int node, int mode) {
            if (depth < open.length) {
                open[depth] = node;
                modes[depth] = mode;
                depth++;
            }
        }

        private int addNode(int kind, long key) {
            int node = Math.min(used, SPAN - 1);
            kinds[node] = kind;
            keys[node] = key;
            used = node + 1;
            return node;
        }

        /** Makes a node the next argument of the compound that is open. */
        private void attach(int node) {
            if (depth <= 0) {
                return;
            }
            int whole = open[depth - 1];
            int place = arityOf(keys[whole]);
            if (place < ARGUMENT_LIMIT) {
                kinds[whole] = COMPOUND;
                arguments[whole * ARGUMENT_LIMIT + place] = node;
                keys[whole]++;
            }
        }

        /** The node of a variable, also a new one; NONE for the ninth. */
        private int variableNamed(long name) {
            int found = 0;
            while (found < variables && names[found] != name) {
                found++;
            }
            if (found >= VARIABLE_LIMIT) {
                return NONE;
            }
            if (found == variables) {
                names[found] = name;
                uses[found] = 0;
                variables++;
            }
            uses[found]++;
            if (goalCount > 0) {
                masks[goalCount - 1] |= 1 << found;
            }
            return found;
        }
    }

    /**
     * A clause, or a query, which has no head. Its terms are nodes: first those of the variables, in
     * the order in which they first occur, then one for each other term.
     */
    private static final class Clause {
        private final int[] kinds;

        /** The keys of atoms and compounds, the values of integers. */
        private final long[] keys;
        private final int[] arguments;
        final int head;
        final int[] goals;
        final int variables;

        /** How many variables occur only once. */
        final int singles;

        /** For each goal, the user predicate that it calls, also within call and not; 0 for none. */
        final long[] calls;

        /** For each goal, how many different variables occur in it and in those behind it. */
        private final int[] needs;

        /** Takes what the reader has read. */
        Clause(Reader reader) {
            kinds = Arrays.copyOf(reader.kinds, reader.used);
            keys = Arrays.copyOf(reader.keys, reader.used);
            arguments = Arrays.copyOf(reader.arguments, reader.used * ARGUMENT_LIMIT);
            head = reader.head;
            goals = Arrays.copyOf(reader.goals, reader.goalCount);
            variables = reader.variables;
            int once = 0;
            for (int v = 0; v < variables; v++) {
                once += reader.uses[v] == 1 ? 1 : 0;
            }
            singles = once;
            calls = new long[goals.length];
            needs = new int[goals.length];
            int mask = 0;
            for (int g = goals.length - 1; g >= 0; g--) {
                mask |= reader.masks[g];
                needs[g] = Integer.bitCount(mask);
                calls[g] = calledFrom(goals[g]);
            }
        }

        int kindAt(int node) {
            return node >= 0 && node < kinds.length ? kinds[node] : NO_TERM;
        }

        long keyAt(int node) {
            return node >= 0 && node < keys.length ? keys[node] : 0;
        }

        int argumentAt(int node, int place) {
            int index = node * ARGUMENT_LIMIT + place;
            return index >= 0 && index < arguments.length ? arguments[index] : 0;
        }

        int goalAt(int place) {
            return place >= 0 && place < goals.length ? goals[place] : 0;
        }

        int needsFrom(int place) {
            return place >= 0 && place < needs.length ? needs[place] : 0;
        }

        long predicate() {
            return keyAt(head);
        }

        int firstKind() {
            return arityOf(predicate()) == 0 ? NO_TERM : kindAt(argumentAt(head, 0));
        }

        long firstKey() {
            return arityOf(predicate()) == 0 ? 0 : keyAt(argumentAt(head, 0));
        }

        boolean endsWithOwnPredicate() {
            return goals.length > 0 && keyAt(goals[goals.length - 1]) == predicate();
        }

        private long calledFrom(int goal) {
            int node = goal;
            for (int depth = 0; depth < SPAN; depth++) {
                long key = keyAt(node);
                int builtin = builtinOf(key);
                if (builtin == USER) {
                    return key;
                }
                if (builtin != CALL && builtin != NOT) {
                    return 0;
                }
                node = argumentAt(node, 0);
                if (!isCallable(kindAt(node), keyAt(node))) {
                    return 0;
                }
            }
            return 0;
        }
    }

    /** A list of clauses. Sets of clauses are ints with a bit for each clause. */
    private static final class Program {
        private final Clause nothing;
        private final Clause[] clauses = new Clause[CLAUSE_LIMIT];
        int size;

        Program(Clause nothing) {
            this.nothing = nothing;
            for (int c = 0; c < clauses.length; c++) {
                clauses[c] = nothing;
            }
        }

        boolean has(int c) {
            return c >= 0 && c < size;
        }

        Clause at(int c) {
            return has(c) && c < clauses.length ? clauses[c] : nothing;
        }

        void copyFrom(Program other) {
            for (int c = 0; c < clauses.length; c++) {
                clauses[c] = other.at(c);
            }
            size = other.size;
        }

        void append(Clause clause) {
            if (size < clauses.length) {
                clauses[size] = clause;
                size++;
            }
        }

        void removeAt(int c) {
            shift(c, size - 1);
            size--;
        }

        void shift(int c, int to) {
            Clause moved = at(c);
            for (int i = c; i < to; i++) {
                clauses[i] = clauses[i + 1];
            }
            for (int i = c; i > to; i--) {
                clauses[i] = clauses[i - 1];
            }
            clauses[to] = moved;
        }

        /** The first clause of a predicate, NONE if it has none. */
        int firstOf(long predicate) {
            int found = clausesOf(predicate);
            return found == 0 ? NONE : lowestOf(found);
        }

        int clausesOf(long predicate) {
            int found = 0;
            for (int c = 0; c < size; c++) {
                if (clauses[c].predicate() == predicate) {
                    found |= 1 << c;
                }
            }
            return found;
        }

        /** The clauses of a predicate that can match a goal with such a first argument. */
        int candidates(long predicate, int kind, long key) {
            int found = 0;
            for (int c = 0; c < size; c++) {
                Clause clause = clauses[c];
                if (clause.predicate() == predicate
                        && canMatch(kind, key, clause.firstKind(), clause.firstKey())) {
                    found |= 1 << c;
                }
            }
            return found;
        }

        int countPredicates() {
            int count = 0;
            for (int c = 0; c < size; c++) {
                count += firstOf(clauses[c].predicate()) == c ? 1 : 0;
            }
            return count;
        }

        /** How many user predicates are called and have no clauses. */
        int countMissing() {
            int count = 0;
            for (int c = 0; c < size; c++) {
                long[] calls = clauses[c].calls;
                for (int g = 0; g < calls.length; g++) {
                    if (calls[g] != 0 && clausesOf(calls[g]) == 0 && !isCalledBefore(c, g)) {
                        count++;
                    }
                }
            }
            return count;
        }

        /** Whether an earlier goal calls the same predicate as this goal of this clause. */
        private boolean isCalledBefore(int clause, int goal) {
            long predicate = clauses[clause].calls[goal];
            for (int c = 0; c <= clause; c++) {
                long[] calls = clauses[c].calls;
                int end = c == clause ? goal : calls.length;
                for (int g = 0; g < end; g++) {
                    if (calls[g] == predicate) {
                        return true;
                    }
                }
            }
            return false;
        }

        int countOverlaps(int c) {
            long predicate = at(c).predicate();
            int count = 0;
            for (int i = 0; i < size; i++) {
                Clause clause = clauses[i];
                if (clause.predicate() == predicate) {
                    int matching = candidates(predicate, clause.firstKind(), clause.firstKey());
                    count += Integer.bitCount(matching & (1 << i) - 1);
                }
            }
            return count;
        }

        /** The steps from the predicate of one clause to that of another, NONE if there is no way. */
        int stepsBetween(int from, int to) {
            int reached = 0;
            int latest = clausesOf(at(from).predicate());
            for (int steps = 1; steps <= CLAUSE_LIMIT && latest != 0; steps++) {
                int next = calledBy(latest);
                if ((next & 1 << to) != 0) {
                    return steps;
                }
                latest = next & ~reached;
                reached |= next;
            }
            return NONE;
        }

        /** The clauses of all predicates that these clauses call. */
        private int calledBy(int callers) {
            int called = 0;
            for (int c = 0; c < size; c++) {
                if ((callers & 1 << c) != 0) {
                    long[] calls = clauses[c].calls;
                    for (int g = 0; g < calls.length; g++) {
                        called |= clausesOf(calls[g]);
                    }
                }
            }
            return called;
        }
    }

    /** The instances of clauses that are in use, the bindings of their variables, and the trail. */
    private static final class Store {
        private final Clause nothing;
        private Clause[] clauses = new Clause[0];
        private int[] numbers = new int[0];
        int used;

        /** For each variable what it is bound to, or UNBOUND. */
        private int[] bound = new int[0];

        private int[] trail = new int[0];
        int trailed;

        /** Instances below this one are older than the newest choice point. */
        int older;

        /** The integers that were computed, by the number of the inference. */
        private final int[] computed = new int[INFERENCE_LIMIT + 1];

        Store(Clause nothing) {
            this.nothing = nothing;
        }

        /** Makes room for so many instances. */
        void grow(int instances) {
            Clause[] more = new Clause[instances];
            for (int i = 0; i < more.length; i++) {
                more[i] = clauseAt(i);
            }
            clauses = more;
            numbers = Arrays.copyOf(numbers, instances);
            bound = Arrays.copyOf(bound, instances * VARIABLE_LIMIT);
            trail = Arrays.copyOf(trail, instances * VARIABLE_LIMIT);
        }

        int capacity() {
            return clauses.length;
        }

        /** Puts a clause in use, without bindings; answers the ref of its first node. */
        int put(int instance, Clause clause, int number) {
            if (instance >= 0 && instance < clauses.length) {
                clauses[instance] = clause;
                numbers[instance] = number;
                Arrays.fill(bound, instance * VARIABLE_LIMIT, (instance + 1) * VARIABLE_LIMIT, UNBOUND);
            }
            return instance * SPAN;
        }

        /** Puts one more clause in use. */
        int enter(Clause clause, int number) {
            used++;
            return put(used - 1, clause, number);
        }

        /** Undoes all bindings, and forgets all instances of called clauses. */
        void reset() {
            Arrays.fill(bound, 0, Math.min(VARIABLE_LIMIT, bound.length), UNBOUND);
            used = FIRST_CALLED;
            trailed = 0;
            older = 0;
        }

        /** Goes back to so many instances and trailed variables. */
        void goBack(int instances, int mark) {
            while (trailed > mark && trailed > 0) {
                trailed--;
                bound[trail[trailed]] = UNBOUND;
            }
            used = instances;
        }

        void bind(int variable, int ref) {
            int slot = slotOf(variable);
            if (slot == NONE) {
                return;
            }
            bound[slot] = ref;
            if (variable >> SPAN_BITS < older && trailed < trail.length) {
                trail[trailed] = slot;
                trailed++;
            }
        }

        int keepComputed(int inference, int value) {
            int index = Math.max(0, Math.min(inference, computed.length - 1));
            computed[index] = value;
            return UNBOUND - 1 - index;
        }

        /** Follows bindings to a term, or to a variable without a binding. */
        int find(int ref) {
            int found = ref;
            for (int step = 0; step < bound.length; step++) {
                int node = found & SPAN_MASK;
                int slot = (found >> SPAN_BITS) * VARIABLE_LIMIT + node;
                if (found < 0 || node >= VARIABLE_LIMIT || slot >= bound.length || bound[slot] == UNBOUND) {
                    return found;
                }
                found = bound[slot];
            }
            return found;
        }

        /** The number of a variable among all variables, NONE if this is no variable. */
        int slotOf(int ref) {
            int node = ref & SPAN_MASK;
            int slot = (ref >> SPAN_BITS) * VARIABLE_LIMIT + node;
            return ref < 0 || node >= VARIABLE_LIMIT || slot >= bound.length ? NONE : slot;
        }

        int bindingAt(int slot) {
            return slot >= 0 && slot < bound.length ? bound[slot] : UNBOUND;
        }

        Clause clauseAt(int instance) {
            return instance >= 0 && instance < clauses.length ? clauses[instance] : nothing;
        }

        /** The number of the clause of an instance, NONE for the query and in a not. */
        int numberOf(int instance) {
            return instance >= 0 && instance < numbers.length ? numbers[instance] : NONE;
        }

        int kindOf(int ref) {
            return ref < 0 ? INTEGER : clauseAt(ref >> SPAN_BITS).kindAt(ref & SPAN_MASK);
        }

        /** The key of an atom or compound, the value of an integer. */
        long keyOf(int ref) {
            return ref < 0 ? computedAt(ref) : clauseAt(ref >> SPAN_BITS).keyAt(ref & SPAN_MASK);
        }

        /** The value of a computed integer. */
        int computedAt(int ref) {
            int index = UNBOUND - 1 - ref;
            return index >= 0 && index < computed.length ? computed[index] : 0;
        }

        int argumentOf(int ref, int place) {
            return (ref & ~SPAN_MASK) | clauseAt(ref >> SPAN_BITS).argumentAt(ref & SPAN_MASK, place);
        }
    }

    /**
     * Makes terms equal. Shared parts can make a term as large as two to the power of its depth, so
     * compounds that have to be equal are joined, and no pair of joined ones is compared again.
     */
    private static final class Unifier {
        private final Store store;

        /** The compound that a compound was joined with, 0 if none: node 0 is that of a variable. */
        private int[] joined = new int[0];

        /** The compounds that were joined with others and whose arguments must be made equal. */
        int[] queue = new int[0];
        private int queued;

        /** Variables whose new binding may contain themselves. */
        private int[] suspects = new int[0];
        private int suspectCount;

        int[] pending = new int[0];
        private int pendingCount;

        /** For each variable whether the search for loops is inside its binding or has left it. */
        private int[] marks = new int[0];
        private int inside;
        private int left;

        Unifier(Store store) {
            this.store = store;
        }

        /** Makes room for so many instances; between two calls the rows hold nothing to be kept. */
        void grow(int instances) {
            joined = new int[instances * SPAN];
            queue = new int[instances * COMPOUND_LIMIT];
            pending = new int[instances * PENDING_LIMIT];
            suspects = new int[instances * VARIABLE_LIMIT];
            marks = new int[instances * VARIABLE_LIMIT];
        }

        /** Unifies two terms; the instance that begins at fresh, if there is one, has just been created. */
        boolean unify(int one, int other, int fresh) {
            queued = 0;
            suspectCount = 0;
            boolean equal = join(one, other, fresh);
            for (int i = 0; equal && i < queued; i++) {
                int whole = queue[i];
                int arity = arityOf(store.keyOf(whole));
                for (int place = 0; equal && place < arity; place++) {
                    int part = store.argumentOf(whole, place);
                    equal = join(part, store.argumentOf(joined[whole], place), fresh);
                }
            }
            for (int i = 0; i < queued; i++) {
                joined[queue[i]] = 0;
            }
            return equal && !hasLoop();
        }

        private boolean join(int one, int other, int fresh) {
            int to = rootOf(one);
            int from = rootOf(other);
            if (from == to) {
                return true;
            }
            int kind = store.kindOf(from);
            int toKind = store.kindOf(to);
            if (toKind == VARIABLE && (kind != VARIABLE || to > from)) {
                int later = to;
                to = from;
                from = later;
                toKind = kind;
                kind = VARIABLE;
            }
            if (kind == VARIABLE) {
                store.bind(from, to);
                // Nothing older leads to the fresh instance, but for variables that are suspects too.
                if (toKind == COMPOUND && (from < fresh || to >= fresh) && suspectCount < suspects.length) {
                    suspects[suspectCount] = from;
                    suspectCount++;
                }
                return true;
            }
            if (kind != toKind || store.keyOf(from) != store.keyOf(to)) {
                return false;
            }
            if (kind == COMPOUND && queued < queue.length && from < joined.length) {
                joined[from] = to;
                queue[queued] = from;
                queued++;
            }
            return true;
        }

        private int rootOf(int ref) {
            int found = store.find(ref);
            for (int step = 0; step < joined.length; step++) {
                if (found < 0 || found >= joined.length || joined[found] == 0) {
                    return found;
                }
                found = joined[found];
            }
            return found;
        }

        /**
         * Whether a variable is bound to a term that contains it. There is no way from a variable to
         * itself without a suspect on it, so the search begins at these; it enters each binding once,
         * and an entry below 0 tells that it leaves one.
         */
        private boolean hasLoop() {
            inside = left + 1;
            left = inside + 1;
            pendingCount = 0;
            for (int i = 0; i < suspectCount; i++) {
                push(suspects[i]);
            }
            for (int step = 0; step < STEP_LIMIT && pendingCount > 0; step++) {
                if (pendingCount + ARGUMENT_LIMIT > pending.length) {
                    return true;
                }
                pendingCount--;
                int ref = pending[pendingCount];
                int slot = store.slotOf(ref);
                if (ref < 0) {
                    leave(-1 - ref);
                } else if (slot == NONE) {
                    int arity = store.kindOf(ref) == COMPOUND ? arityOf(store.keyOf(ref)) : 0;
                    for (int place = 0; place < arity; place++) {
                        push(store.argumentOf(ref, place));
                    }
                } else if (marks[slot] == inside) {
                    return true;
                } else if (marks[slot] != left) {
                    enter(slot);
                }
            }
            return false;
        }

        private void enter(int slot) {
            int binding = store.bindingAt(slot);
            if (binding < 0) {
                leave(slot);
                return;
            }
            marks[slot] = inside;
            push(-1 - slot);
            push(binding);
        }

        private void leave(int slot) {
            if (slot >= 0 && slot < marks.length) {
                marks[slot] = left;
            }
        }

        private void push(int entry) {
            if (pendingCount < pending.length) {
                pending[pendingCount] = entry;
                pendingCount++;
            }
        }
    }

    /** Computes the values of terms; a variable that a term contains many times is computed once. */
    private static final class Arithmetic {
        /** What is to be done: to compute a term, to apply its name to two values, to keep a value. */
        private static final int COMPUTE = 0, APPLY = 1, KEEP = 2;
        private static final int TASK_BITS = 16, TASK_MASK = 65535;

        private final Store store;
        private int[] tasks = new int[0];
        private int taskCount;
        private int[] values = new int[0];
        private int valueCount;

        /** The values of variables, and the evaluation in which they were computed. */
        private int[] kept = new int[0];
        private int[] keptIn = new int[0];
        private int evaluation;

        int result;

        Arithmetic(Store store) {
            this.store = store;
        }

        /** Makes room for so many instances, with rows of the unifier: never are both at work. */
        void grow(int instances, Unifier unifier) {
            tasks = unifier.pending;
            values = unifier.queue;
            kept = new int[instances * VARIABLE_LIMIT];
            keptIn = new int[instances * VARIABLE_LIMIT];
        }

        /** False if the term has no value; otherwise the value is the result. */
        boolean evaluate(int ref) {
            evaluation++;
            taskCount = 0;
            valueCount = 0;
            boolean possible = compute(ref);
            for (int step = 0; possible && step < STEP_LIMIT && taskCount > 0; step++) {
                taskCount--;
                int task = tasks[taskCount];
                int what = task >> TASK_BITS;
                int object = task & TASK_MASK;
                if (what == COMPUTE) {
                    possible = compute(object);
                } else if (what == APPLY) {
                    possible = apply(store.keyOf(object));
                } else {
                    possible = keep(object);
                }
            }
            result = valueCount > 0 ? values[0] : 0;
            return possible && valueCount == 1;
        }

        private boolean compute(int ref) {
            int kind = store.kindOf(ref);
            if (kind == VARIABLE) {
                return computeVariable(store.slotOf(ref));
            }
            long key = store.keyOf(ref);
            if (kind == INTEGER) {
                return addValue((int) key);
            }
            if (kind != COMPOUND || key != KEY_ADD && key != KEY_SUB && key != KEY_MUL) {
                return false;
            }
            return addTask(APPLY, ref)
                    && addTask(COMPUTE, store.argumentOf(ref, 1))
                    && addTask(COMPUTE, store.argumentOf(ref, 0));
        }

        private boolean computeVariable(int slot) {
            int binding = store.bindingAt(slot);
            if (slot == NONE || binding == UNBOUND) {
                return false;
            }
            if (binding < 0) {
                return addValue(store.computedAt(binding));
            }
            if (slot < kept.length && keptIn[slot] == evaluation) {
                return addValue(kept[slot]);
            }
            return addTask(KEEP, slot) && addTask(COMPUTE, binding);
        }

        private boolean apply(long key) {
            if (valueCount < 2) {
                return false;
            }
            int second = values[valueCount - 1];
            int first = values[valueCount - 2];
            valueCount -= 2;
            if (key == KEY_ADD) {
                return addValue(first + second);
            }
            return addValue(key == KEY_SUB ? first - second : first * second);
        }

        private boolean keep(int slot) {
            if (valueCount <= 0 || slot >= kept.length) {
                return false;
            }
            kept[slot] = values[valueCount - 1];
            keptIn[slot] = evaluation;
            return true;
        }

        private boolean addTask(int what, int object) {
            if (taskCount >= tasks.length) {
                return false;
            }
            tasks[taskCount] = what << TASK_BITS | object;
            taskCount++;
            return true;
        }

        private boolean addValue(int number) {
            if (valueCount >= values.length) {
                return false;
            }
            values[valueCount] = number;
            valueCount++;
            return true;
        }
    }

    /** Remaining goals. A frame in use is never changed, since choice points may remember it. */
    private static final class Frame {
        /** The instance of the clause or query, or NOT_GOAL or NOT_END. */
        int instance;

        /** The place of the first remaining goal; in a NOT_GOAL the ref of the goal. */
        int next;

        /** The frame below, null in the lowest one. */
        Frame under;

        /** How many choice points remain after a cut, or after the end of a not. */
        int keep;

        /** How many frames there are up to this one. */
        int depth;
    }

    /** What backtracking goes back to. */
    private static final class Choice {
        Frame top;

        /** The goal that was called, NONE in a barrier. */
        int goal;

        /** The candidates that are left. */
        int left;

        int instances;
        int trailed;
        int framesUsed;

        boolean isBarrier() {
            return goal == NONE;
        }
    }

    /** The search for the solutions of a query. */
    private static final class Search {
        private final Program program;
        final Store store;
        private final Unifier unifier;
        private final Arithmetic arithmetic;

        private final Frame[] frames = new Frame[2 * INFERENCE_LIMIT + 2];
        private int framesUsed;
        Frame top;

        private final Choice[] choices = new Choice[INFERENCE_LIMIT + 1];
        private int choiceCount;

        /** How many choice points remain if the goal that was taken last is a cut. */
        private int cutTo;

        int status;
        private int error;
        private int inferences;
        private int solutions;
        private int tries;
        private int mostFrames;
        private int mostChoices;

        /** For each clause how often it was tried, and how often its head was unified. */
        private final int[] tried = new int[CLAUSE_LIMIT];
        private final int[] matched = new int[CLAUSE_LIMIT];

        Search(Program program, Clause nothing) {
            this.program = program;
            store = new Store(nothing);
            unifier = new Unifier(store);
            arithmetic = new Arithmetic(store);
            grow(INSTANCES_AT_FIRST);
        }

        private void grow(int instances) {
            store.grow(instances);
            unifier.grow(instances);
            arithmetic.grow(instances, unifier);
        }

        void begin(Clause query) {
            forget();
            status = RUNNING;
            error = 0;
            inferences = 0;
            solutions = 0;
            tries = 0;
            mostFrames = 0;
            mostChoices = 0;
            Arrays.fill(tried, 0);
            Arrays.fill(matched, 0);
            store.put(QUERY, query, NONE);
            top = newFrame(QUERY, 0, null, 0);
        }

        /** There is no query then. */
        void forget() {
            finish(NO_QUERY, 0);
        }

        private void finish(int newStatus, int newError) {
            status = newStatus;
            error = newError;
            top = null;
            framesUsed = 0;
            choiceCount = 0;
            store.reset();
        }

        /** Goes on until the query stops by itself or needs one inference more than the limit. */
        int proceed(int limit) {
            if (status == SOLVED) {
                status = RUNNING;
                backtrack();
            }
            int made = 0;
            for (int step = 0; step < STEP_LIMIT && status == RUNNING; step++) {
                if (top == null) {
                    status = SOLVED;
                    solutions++;
                } else if (top.instance == NOT_END) {
                    keepChoices(top.keep);
                    backtrack();
                } else if (inferences >= INFERENCE_LIMIT) {
                    finish(ENDED, TOO_LONG);
                } else if (made >= limit) {
                    return status;
                } else {
                    made++;
                    int goal = takeGoal(top);
                    if (goal == NONE) {
                        finish(ENDED, NOT_CALLABLE);
                    } else if (!perform(goal)) {
                        backtrack();
                    }
                }
            }
            return status;
        }

        /** Begins an inference; answers the goal, behind any call, or NONE if it is not callable. */
        private int takeGoal(Frame frame) {
            inferences++;
            mostFrames = Math.max(mostFrames, frame.depth);
            mostChoices = Math.max(mostChoices, choiceCount);
            int goal = goalOf(frame);
            dropGoal(frame);
            cutTo = frame.instance == NOT_GOAL ? choiceCount : frame.keep;
            for (int step = 0; step < STEP_LIMIT && store.keyOf(goal) == KEY_CALL; step++) {
                cutTo = choiceCount;
                goal = store.find(store.argumentOf(goal, 0));
                if (!isCallable(store.kindOf(goal), store.keyOf(goal))) {
                    return NONE;
                }
            }
            return goal;
        }

        /** The goal that is the first one of a frame. */
        int goalOf(Frame frame) {
            if (frame.instance < 0) {
                return frame.next;
            }
            return frame.instance * SPAN + store.clauseAt(frame.instance).goalAt(frame.next);
        }

        /** Removes the first goal of the top frame. */
        private void dropGoal(Frame frame) {
            if (frame.instance == NOT_GOAL) {
                top = newFrame(NOT_END, 0, frame.under, frame.keep);
            } else if (goalsLeft(frame) > 1) {
                top = newFrame(frame.instance, frame.next + 1, frame.under, frame.keep);
            } else {
                top = frame.under;
            }
        }

        /** False if the search has to go on at the newest choice point. */
        private boolean perform(int goal) {
            int first = store.argumentOf(goal, 0);
            int second = store.argumentOf(goal, 1);
            switch (builtinOf(store.keyOf(goal))) {
                case TRUE:
                    return true;
                case FAIL:
                    return false;
                case CUT:
                    keepChoices(cutTo);
                    return true;
                case SAME:
                    return unifier.unify(first, second, NO_REF);
                case LESS:
                    return compare(first, second);
                case IS:
                    return assign(first, second);
                case NOT:
                    return beginNot(store.find(first));
                default:
                    callUser(goal);
                    return false;
            }
        }

        private boolean compare(int one, int other) {
            if (!arithmetic.evaluate(one)) {
                finish(ENDED, NO_VALUE);
                return true;
            }
            int low = arithmetic.result;
            if (!arithmetic.evaluate(other)) {
                finish(ENDED, NO_VALUE);
                return true;
            }
            return low < arithmetic.result;
        }

        private boolean assign(int target, int expression) {
            if (!arithmetic.evaluate(expression)) {
                finish(ENDED, NO_VALUE);
                return true;
            }
            return unifier.unify(target, store.keepComputed(inferences, arithmetic.result), NO_REF);
        }

        private boolean beginNot(int goal) {
            if (!isCallable(store.kindOf(goal), store.keyOf(goal))) {
                finish(ENDED, NOT_CALLABLE);
                return true;
            }
            int keep = choiceCount;
            addChoice(NONE, 0);
            top = newFrame(NOT_GOAL, goal, top, keep);
            return true;
        }

        /** Leaves a choice point, even for one candidate: backtracking removes it before it takes the last. */
        private void callUser(int goal) {
            long predicate = store.keyOf(goal);
            int kind = NO_TERM;
            long key = 0;
            if (arityOf(predicate) > 0) {
                int first = store.find(store.argumentOf(goal, 0));
                kind = store.kindOf(first);
                key = store.keyOf(first);
            }
            int candidates = program.candidates(predicate, kind, key);
            if (candidates != 0) {
                addChoice(goal, candidates);
            }
        }

        private void addChoice(int goal, int candidates) {
            if (choiceCount >= choices.length) {
                return;
            }
            Choice choice = choices[choiceCount];
            if (choice == null) {
                choice = new Choice();
                choices[choiceCount] = choice;
            }
            choice.top = top;
            choice.goal = goal;
            choice.left = candidates;
            choice.instances = store.used;
            choice.trailed = store.trailed;
            choice.framesUsed = framesUsed;
            keepChoices(choiceCount + 1);
        }

        private void keepChoices(int count) {
            choiceCount = count;
            Choice newest = choiceAt(0);
            store.older = newest == null ? 0 : newest.instances;
        }

        /** Goes to the newest choice point, again and again until a candidate or a not succeeds. */
        private void backtrack() {
            for (int step = 0; step < STEP_LIMIT; step++) {
                Choice choice = choiceAt(0);
                if (choice == null) {
                    finish(FAILED, 0);
                    return;
                }
                int older = choiceCount - 1;
                store.goBack(choice.instances, choice.trailed);
                framesUsed = choice.framesUsed;
                top = choice.top;
                int candidate = lowestOf(choice.left);
                choice.left &= choice.left - 1;
                if (choice.left == 0) {
                    keepChoices(older);
                }
                if (choice.isBarrier() || tryClause(candidate, choice.goal, older)) {
                    return;
                }
            }
        }

        private boolean tryClause(int number, int goal, int keep) {
            if (number < 0 || number >= tried.length) {
                return false;
            }
            tries++;
            tried[number]++;
            Clause clause = program.at(number);
            if (store.used >= store.capacity()) {
                grow(Math.min(MOST_INSTANCES, store.capacity() * GROWTH));
            }
            int fresh = store.enter(clause, number);
            if (!unifier.unify(goal, fresh + clause.head, fresh)) {
                return false;
            }
            matched[number]++;
            if (clause.goals.length > 0) {
                top = newFrame(fresh / SPAN, 0, top, keep);
            }
            return true;
        }

        private Frame newFrame(int instance, int next, Frame under, int keep) {
            int place = Math.min(framesUsed, frames.length - 1);
            Frame frame = frames[place];
            if (frame == null) {
                frame = new Frame();
                frames[place] = frame;
            }
            framesUsed++;
            frame.instance = instance;
            frame.next = next;
            frame.under = under;
            frame.keep = keep;
            frame.depth = under == null ? 1 : under.depth + 1;
            return frame;
        }

        int goalsLeft(Frame frame) {
            if (frame.instance < 0) {
                return frame.instance == NOT_GOAL ? 2 : 1;
            }
            return store.clauseAt(frame.instance).goals.length - frame.next;
        }

        int variablesLeft(Frame frame) {
            return frame.instance < 0 ? 0 : store.clauseAt(frame.instance).needsFrom(frame.next);
        }

        int triesOf(int clause) {
            return status == NO_QUERY || clause < 0 || clause >= tried.length ? 0 : tried[clause];
        }

        int matchesOf(int clause) {
            return status == NO_QUERY || clause < 0 || clause >= matched.length ? 0 : matched[clause];
        }

        boolean hasVariable(int v) {
            return status != NO_QUERY && v >= 0 && v < store.clauseAt(QUERY).variables;
        }

        /** The lowest variable of the query that leads to this variable without a binding. */
        int lowestAlias(int variable) {
            for (int v = 0; v < VARIABLE_LIMIT; v++) {
                if (store.find(v) == variable) {
                    return v;
                }
            }
            return NONE;
        }

        /** Null if there is no such frame. */
        Frame frameAt(int place) {
            Frame frame = place < 0 ? null : top;
            for (int i = 0; i < place && frame != null; i++) {
                frame = frame.under;
            }
            return frame;
        }

        /** Null if there is no such choice point. */
        Choice choiceAt(int place) {
            int index = choiceCount - 1 - place;
            return place < 0 || index < 0 || index >= choices.length ? null : choices[index];
        }

        int numberOf(int what) {
            switch (what) {
                case 0:
                    return status;
                case 1:
                    return inferences;
                case 2:
                    return solutions;
                case 3:
                    return top == null ? 0 : top.depth;
                case 4:
                    return sumOfGoals();
                case 5:
                    return sumOfVariables();
                case 6:
                    return choiceCount;
                case 7:
                    return countBarriers();
                case 8:
                    return store.trailed;
                case 9:
                    return tries;
                case 10:
                    return error;
                case 11:
                    return mostFrames;
                default:
                    return mostChoices;
            }
        }

        private int sumOfGoals() {
            int sum = 0;
            for (Frame frame = top; frame != null; frame = frame.under) {
                sum += goalsLeft(frame);
            }
            return sum;
        }

        private int sumOfVariables() {
            int sum = 0;
            for (Frame frame = top; frame != null; frame = frame.under) {
                sum += variablesLeft(frame);
            }
            return sum;
        }

        private int countBarriers() {
            int count = 0;
            for (int place = 0; place < choiceCount; place++) {
                Choice choice = choiceAt(place);
                count += choice != null && choice.isBarrier() ? 1 : 0;
            }
            return count;
        }
    }

    /** Writes terms, with their bindings, as a text of which only the first characters are kept. */
    private static final class Writer {
        private final Store store;
        private final char[] signs = new char[TEXT_LIMIT];
        private int length;

        /** The variables that have been written, by their numbers. */
        private final int[] variables = new int[TEXT_LIMIT];
        private int variableCount;

        /** The compounds that are not yet closed, and how many arguments of each are written. */
        private final int[] open = new int[TEXT_LIMIT];
        private final int[] written = new int[TEXT_LIMIT];
        private int depth;

        Writer(Store store) {
            this.store = store;
        }

        void restart() {
            length = 0;
            variableCount = 0;
        }

        int at(int index) {
            return index >= 0 && index < length ? signs[index] : NONE;
        }

        void addClause(Clause clause) {
            int base = store.put(SPARE, clause, NONE);
            addTerm(base + clause.head);
            for (int g = 0; g < clause.goals.length; g++) {
                if (g == 0) {
                    add(':');
                    add('-');
                } else {
                    add(',');
                }
                addTerm(base + clause.goals[g]);
            }
            add('.');
        }

        /** Each compound that is open has a character, so the text is full before too many are. */
        void addTerm(int ref) {
            depth = 0;
            beginTerm(store.find(ref));
            for (int step = 0; step < STEP_LIMIT && depth > 0 && length < signs.length; step++) {
                int whole = open[depth - 1];
                if (store.keyOf(whole) == KEY_LIST) {
                    continueList(whole);
                } else {
                    continueCompound(whole);
                }
            }
        }

        private void beginTerm(int ref) {
            long key = store.keyOf(ref);
            switch (store.kindOf(ref)) {
                case VARIABLE:
                    addVariable(ref);
                    return;
                case INTEGER:
                    addNumber(key);
                    return;
                case COMPOUND:
                    beginCompound(ref, key);
                    return;
                default:
                    addName(key >> ARITY_BITS);
            }
        }

        private void beginCompound(int ref, long key) {
            if (key == KEY_LIST) {
                add('[');
            } else {
                addName(key >> ARITY_BITS);
                add('(');
            }
            if (depth < open.length) {
                open[depth] = ref;
                written[depth] = 0;
                depth++;
            }
        }

        private void continueCompound(int whole) {
            int place = written[depth - 1];
            if (place >= arityOf(store.keyOf(whole))) {
                add(')');
                depth--;
                return;
            }
            if (place > 0) {
                add(',');
            }
            written[depth - 1]++;
            beginTerm(store.find(store.argumentOf(whole, place)));
        }

        private void continueList(int whole) {
            int place = written[depth - 1];
            written[depth - 1]++;
            int part = store.find(store.argumentOf(whole, Math.min(place, 1)));
            if (place == 0) {
                beginTerm(part);
            } else if (place > 1 || isKeyOf(part, KEY_NIL)) {
                add(']');
                depth--;
            } else if (isKeyOf(part, KEY_LIST)) {
                // The rest of the list goes on in the same brackets.
                add(',');
                open[depth - 1] = part;
                written[depth - 1] = 0;
            } else {
                add('|');
                beginTerm(part);
            }
        }

        private boolean isKeyOf(int ref, long key) {
            return store.kindOf(ref) >= ATOM && store.keyOf(ref) == key;
        }

        private void addVariable(int ref) {
            int number = 0;
            while (number < variableCount && variables[number] != ref) {
                number++;
            }
            if (number == variableCount && variableCount < variables.length) {
                variables[variableCount] = ref;
                variableCount++;
            }
            add('_');
            addNumber(number);
        }

        private void addNumber(long number) {
            if (number < 0) {
                add('-');
            }
            long rest = Math.abs(number);
            long unit = 1;
            for (int digits = 1; digits < 10 && unit * 10 <= rest; digits++) {
                unit *= 10;
            }
            for (; unit > 0; unit /= 10) {
                add((int) (rest / unit % 10) + '0');
            }
        }

        private void addName(long name) {
            for (long rest = name; rest > 0; rest >>= SIGN_BITS) {
                add((int) (rest & SIGN_MASK));
            }
        }

        private void add(int sign) {
            if (length < signs.length) {
                signs[length] = (char) sign;
                length++;
            }
        }
    }
}

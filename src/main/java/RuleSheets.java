import java.util.Arrays;

/**
 * A solver for games that are told by sheets of rules: a sheet is read and checked, its rules are
 * worked out for any state and moves, all states that can come are found and looked over for
 * defects, and of a game of two that has none the value is found, with a move that reaches it.
 *
 * <p>All rows are made with the object and used again by every call; only those of the terms and of
 * the found states are made small, and anew, once each at most, for all that can ever come.
 */
public final class RuleSheets {
    /** There is none. */
    public static final int NONE = -1;

    private static final int SEVERAL = -2;

    private static final int MOST_SIGNS = 2000;
    private static final int MOST_RULES = 60;
    private static final int MOST_CONDITIONS = 8;
    private static final int MOST_VARIABLES = 8;
    private static final int MOST_ROLES = 4;
    private static final int MOST_ATOMS = 1000;
    private static final int MOST_TERM_SIGNS = 48;
    private static final int MOST_STATE_TERMS = 60;
    private static final int MOST_STATES = 300;
    private static final int MOST_JOINT_MOVES = 40;
    private static final int MOST_ROOM = 300000;
    private static final int MOST_WORK = 30000000;
    private static final int MOST_GOAL = 100;
    private static final int DEEPEST = 10;
    private static final int LONGEST_NAME = 16;
    /** A term, and an atom, has at most so many terms; all rows of terms go by this step. */
    private static final int WIDTH = 4;

    /** A name and a node both take two signs of a text at least, on the whole. */
    private static final int MOST_NAMES = 1024;
    private static final int MOST_NODES = 1024;
    /**
     * A term of n names, w of them with parts, has a text of 2 n - 1 + 2 w signs at least, with n at
     * most 4 w + 1: so with 48 signs there are at most 19 names, and at most 11 of them with parts.
     */
    private static final int MOST_TERM_NAMES = 19;
    private static final int MOST_TERM_WHOLES = 11;

    /** The names that the rules of sheets know, in the order of the numbers below. */
    private static final String WORDS =
            "role init true next does legal goal terminal not distinct ";
    private static final int ROLE = 0;
    private static final int INIT = 1;
    private static final int TRUE = 2;
    private static final int NEXT = 3;
    private static final int DOES = 4;
    private static final int LEGAL = 5;
    private static final int GOAL = 6;
    private static final int TERMINAL = 7;
    private static final int NOT = 8;
    private static final int DISTINCT = 9;

    /** What is known of something that is worked out when it is first asked for. */
    private static final int UNKNOWN = 0;
    private static final int KNOWN = 1;
    private static final int TOO_GREAT = 2;

    private final char[] text = new char[MOST_SIGNS];
    private int length = 0;
    private int faultPlace = NONE;

    private final Tokens tokens = new Tokens(text);
    private Sheet current = new Sheet();
    private Sheet spare = new Sheet();
    private boolean hasSheet = false;
    private final Parser parser = new Parser(tokens, spare);
    private final Checker checker = new Checker(spare);

    private final Model model = new Model(current);
    private final int[] held = new int[MOST_STATE_TERMS];
    private final int[] coming = new int[MOST_STATE_TERMS];
    private int size = NONE;
    private final View here = new View();
    private int seen = UNKNOWN;

    private final View ahead = new View();
    private final States states = new States();
    private int explored = UNKNOWN;
    private long work = 0;

    /** An empty text; nothing is read. */
    public RuleSheets() {
    }

    /** Four more signs, the lowest byte first (0 is left out): how many there are. */
    public int put(int signs) throws IllegalArgumentException, UnsupportedOperationException {
        int more = 0;
        for (int i = 0; i < 4; i++) {
            int sign = (signs >>> (8 * i)) & 255;
            if (sign != 0) {
                if (sign != '\n' && (sign < 32 || sign > 126)) {
                    throw new IllegalArgumentException("no sign of a text");
                }
                more++;
            }
        }
        if (length + more > MOST_SIGNS) {
            throw new UnsupportedOperationException("too many signs");
        }
        for (int i = 0; i < 4; i++) {
            int sign = (signs >>> (8 * i)) & 255;
            if (sign != 0) {
                text[length] = (char) sign;
                length++;
            }
        }
        return length;
    }

    /** The text has its first n signs. */
    public void end(int n) throws IllegalArgumentException {
        if (n < 0 || n > length) {
            throw new IllegalArgumentException("the text has no such place");
        }
        length = n;
    }

    /** Reads the text: 0, and it is the sheet; or the fault, and the sheet before stays. */
    public int read() {
        spare.clear();
        tokens.split(length, spare.names);
        faultPlace = parser.parse(spare);
        if (faultPlace != NONE) {
            return 1;
        }
        int kind = checker.check(spare);
        faultPlace = checker.place;
        if (kind != 0) {
            return kind;
        }
        Sheet before = current;
        current = spare;
        spare = before;
        hasSheet = true;
        model.install(current);
        size = NONE;
        seen = UNKNOWN;
        explored = UNKNOWN;
        return 0;
    }

    /** Where the fault is that the latest read() found. */
    public int fault() {
        return faultPlace;
    }

    /** How many rules the sheet has (0), how many roles (1). */
    public int sheet(int what) throws IllegalStateException, IllegalArgumentException {
        needSheet();
        if (what != 0 && what != 1) {
            throw new IllegalArgumentException("no such what");
        }
        return what == 0 ? current.rules : model.roleCount;
    }

    /** The state becomes the initial one: how many terms it has. */
    public int start() throws IllegalStateException, UnsupportedOperationException {
        needSheet();
        model.fix();
        model.terms.cut(model.kept);
        model.workOut(held, 0, here.chosen, 0);
        become(INIT);
        return size;
    }

    /** How many moves role r has in the state. */
    public int moves(int r)
            throws IllegalStateException, IndexOutOfBoundsException, UnsupportedOperationException {
        needState();
        needRole(r);
        look();
        return here.many(r);
    }

    /** Whether the state is terminal. */
    public boolean terminal() throws IllegalStateException, UnsupportedOperationException {
        needState();
        look();
        return here.ended;
    }

    /** The goal of role r in the state; NONE if there is none, -2 if there are several. */
    public int goal(int r)
            throws IllegalStateException, IndexOutOfBoundsException, UnsupportedOperationException {
        needState();
        needRole(r);
        look();
        return here.goals[r];
    }

    /** The state becomes the next one by joint move j: how many terms it has. */
    public int play(int j)
            throws IllegalStateException, IndexOutOfBoundsException, UnsupportedOperationException {
        needState();
        if (j < 0 || model.roleCount == 0) {
            throw new IndexOutOfBoundsException("no such joint move");
        }
        look();
        if (j >= here.joint()) {
            throw new IndexOutOfBoundsException("no such joint move");
        }
        here.choose(j);
        model.terms.cut(model.kept);
        model.workOut(held, size, here.chosen, model.roleCount);
        become(NEXT);
        return size;
    }

    /** Sign k of a text (0 behind its end): 0 the state's i-th term, 1 + r a move, 5 role i. */
    public int sign(int what, int i, int k)
            throws IllegalStateException, IllegalArgumentException, IndexOutOfBoundsException,
            UnsupportedOperationException {
        needSheet();
        if (what < 0 || what > 5) {
            throw new IllegalArgumentException("no such what");
        }
        if (what < 5) {
            needState();
        }
        if (i < 0 || k < 0) {
            throw new IndexOutOfBoundsException("below 0");
        }
        if (what == 0) {
            if (i >= size) {
                throw new IndexOutOfBoundsException("no such term");
            }
            return model.terms.signAt(held[i], k);
        }
        if (what == 5) {
            needRole(i);
            return model.terms.signAt(model.roles[i], k);
        }
        needRole(what - 1);
        look();
        if (i >= here.many(what - 1)) {
            throw new IndexOutOfBoundsException("no such move");
        }
        return model.terms.signAt(here.move(what - 1, i), k);
    }

    /** Finds all states (once for a sheet): how many; the state stays. */
    public int explore() throws IllegalStateException, UnsupportedOperationException {
        needSheet();
        if (explored == UNKNOWN) {
            // What is thrown on the way leaves this word behind for the next call.
            explored = TOO_GREAT;
            model.fix();
            model.terms.cut(model.kept);
            states.clear(model.roleCount);
            work = 0;
            model.workOut(held, 0, ahead.chosen, 0);
            addWork();
            enter(INIT);
            for (int n = 0; n < states.count && n < MOST_STATES; n++) {
                expand(n);
            }
            states.judge();
            explored = KNOWN;
        }
        if (explored == TOO_GREAT) {
            throw new UnsupportedOperationException("too great");
        }
        return states.count;
    }

    /** The first defect (0), its state (1). */
    public int defect(int what) throws IllegalStateException, IllegalArgumentException {
        needStates();
        if (what != 0 && what != 1) {
            throw new IllegalArgumentException("no such what");
        }
        return what == 0 ? states.flaw : states.flawed;
    }

    /** Of state n: 0 how many terms, 1 whether it is terminal, 2 how many joint moves. */
    public int state(int n, int what)
            throws IllegalStateException, IndexOutOfBoundsException, IllegalArgumentException {
        needStates();
        needNumber(n);
        if (what < 0 || what > 2) {
            throw new IllegalArgumentException("no such what");
        }
        if (what == 0) {
            return states.sizes[n];
        }
        if (what == 1) {
            return states.ended[n] ? 1 : 0;
        }
        return states.joints[n];
    }

    /** The state that comes by joint move j of state n. */
    public int next(int n, int j) throws IllegalStateException, IndexOutOfBoundsException {
        needStates();
        needNumber(n);
        if (j < 0 || j >= states.joints[n]) {
            throw new IndexOutOfBoundsException("no such joint move");
        }
        return states.nexts[MOST_JOINT_MOVES * n + j];
    }

    /** The value of state n. */
    public int value(int n) throws IllegalStateException, IndexOutOfBoundsException {
        needSound();
        needNumber(n);
        return states.values[n];
    }

    /** The best joint move of state n; NONE if it is terminal. */
    public int best(int n) throws IllegalStateException, IndexOutOfBoundsException {
        needSound();
        needNumber(n);
        return states.bests[n];
    }

    private void needSheet() {
        if (!hasSheet) {
            throw new IllegalStateException("there is no sheet");
        }
    }

    private void needState() {
        if (size == NONE) {
            throw new IllegalStateException("there is no state");
        }
    }

    private void needRole(int r) {
        if (r < 0 || r >= model.roleCount) {
            throw new IndexOutOfBoundsException("there is no such role");
        }
    }

    private void needStates() {
        if (explored != KNOWN) {
            throw new IllegalStateException("the states aren't known");
        }
    }

    private void needSound() {
        if (explored != KNOWN || states.flaw != 0) {
            throw new IllegalStateException("the states aren't known, or have a defect");
        }
    }

    private void needNumber(int n) {
        if (n < 0 || n >= states.count) {
            throw new IndexOutOfBoundsException("there is no such state");
        }
    }

    /** Works out the state without moves, once for each state. */
    private void look() {
        if (seen == UNKNOWN) {
            seen = TOO_GREAT;
            model.terms.cut(model.kept);
            model.workOut(held, size, here.chosen, 0);
            here.gather(model);
            model.terms.keep(here.row, here.total(), model.kept);
            model.kept = model.terms.count;
            seen = KNOWN;
        }
        if (seen == TOO_GREAT) {
            throw new UnsupportedOperationException("too great");
        }
    }

    /** The terms of the relation's atoms become the state; what may throw comes first. */
    private void become(int relation) {
        int n = model.collect(relation, coming);
        model.terms.keep(coming, n, model.fixedTerms);
        for (int i = 0; i < n; i++) {
            model.terms.insert(held, 0, i, coming[i]);
        }
        size = n;
        model.kept = model.terms.count;
        seen = UNKNOWN;
    }

    private void addWork() {
        work += model.work;
        if (work > MOST_WORK) {
            throw new UnsupportedOperationException("too much work");
        }
    }

    /** Looks at state n, and at what comes of it by each of its joint moves. */
    private void expand(int n) {
        Terms terms = model.terms;
        terms.cut(model.kept);
        int[] row = states.store.row;
        int many = states.store.load(n, terms);
        int mark = terms.count;
        model.workOut(row, many, ahead.chosen, 0);
        addWork();
        ahead.gather(model);
        states.look(n, ahead);
        terms.keep(ahead.row, states.joints[n] > 0 ? ahead.total() : 0, mark);
        mark = terms.count;
        for (int j = 0; j < states.joints[n]; j++) {
            ahead.choose(j);
            model.workOut(row, many, ahead.chosen, model.roleCount);
            addWork();
            states.nexts[MOST_JOINT_MOVES * n + j] = enter(NEXT);
            terms.cut(mark);
        }
    }

    /** The number of the state that the relation's atoms tell; a new one gets the next. */
    private int enter(int relation) {
        int n = model.collect(relation, coming);
        model.terms.arrange(coming, n);
        return states.enter(coming, n, model.terms);
    }

    /** The names of one text, each with a number; the words of the rules come first. */
    private static final class Names {
        private static final int SLOTS = 2 * MOST_NAMES;

        private final char[] words = WORDS.toCharArray();
        private final char[] pool = new char[MOST_SIGNS + WORDS.length()];
        private final int[] from = new int[MOST_NAMES + 1];
        private final int[] slots = new int[SLOTS];
        private int count = 0;

        void clear() {
            Arrays.fill(slots, 0);
            count = 0;
            int begin = 0;
            for (int i = 0; i < words.length; i++) {
                if (words[i] == ' ') {
                    intern(words, begin, i - begin);
                    begin = i + 1;
                }
            }
        }

        /** The number of a name; a new one gets the next. */
        int intern(char[] signs, int begin, int length) {
            int hash = 0;
            for (int i = 0; i < length; i++) {
                hash = 31 * hash + signs[begin + i];
            }
            int slot = (hash ^ (hash >>> 11)) & (SLOTS - 1);
            for (int i = 0; i < SLOTS; i++) {
                int name = slots[slot] - 1;
                if (name == NONE) {
                    break;
                }
                if (isName(name, signs, begin, length)) {
                    return name;
                }
                slot = (slot + 1) & (SLOTS - 1);
            }
            for (int i = 0; i < length; i++) {
                pool[from[count] + i] = signs[begin + i];
            }
            from[count + 1] = from[count] + length;
            count++;
            slots[slot] = count;
            return count - 1;
        }

        private boolean isName(int name, char[] signs, int begin, int length) {
            if (lengthOf(name) != length) {
                return false;
            }
            for (int i = 0; i < length; i++) {
                if (pool[from[name] + i] != signs[begin + i]) {
                    return false;
                }
            }
            return true;
        }

        int lengthOf(int name) {
            return from[name + 1] - from[name];
        }

        int signOf(int name, int k) {
            return pool[from[name] + k];
        }

        int compare(int a, int b) {
            int shorter = Math.min(lengthOf(a), lengthOf(b));
            for (int i = 0; i < shorter; i++) {
                if (signOf(a, i) != signOf(b, i)) {
                    return signOf(a, i) - signOf(b, i);
                }
            }
            return lengthOf(a) - lengthOf(b);
        }
    }

    /** The tokens of a text, up to its end or to the first sign that begins none. */
    private static final class Tokens {
        static final int OPEN = 0;
        static final int CLOSE = 1;
        static final int ARROW = 2;
        static final int NAME = 3;
        static final int VARIABLE = 4;
        static final int END = 5;
        static final int BAD = 6;

        final int[] kind = new int[MOST_SIGNS + 1];
        final int[] place = new int[MOST_SIGNS + 1];
        final int[] name = new int[MOST_SIGNS + 1];
        private int count = 0;
        private final char[] text;
        private int length = 0;

        Tokens(char[] signs) {
            text = signs;
        }

        void split(int many, Names names) {
            length = many;
            count = 0;
            int at = skip(0);
            for (int i = 0; i < many && at < many; i++) {
                int behind = take(at, names);
                if (behind == NONE) {
                    append(BAD, at);
                    return;
                }
                at = skip(behind);
            }
            append(END, many);
        }

        /** The first place from at on that is neither blank nor line end nor in a comment. */
        private int skip(int at) {
            boolean comment = false;
            for (int i = at; i < length; i++) {
                char sign = text[i];
                if (sign == '\n') {
                    comment = false;
                } else if (sign == ';') {
                    comment = true;
                } else if (!comment && sign != ' ') {
                    return i;
                }
            }
            return length;
        }

        /** Takes the token that begins here: the place behind it, or NONE if none begins. */
        private int take(int at, Names names) {
            char sign = text[at];
            if (sign == '(' || sign == ')') {
                append(sign == '(' ? OPEN : CLOSE, at);
                return at + 1;
            }
            if (sign == '<') {
                if (at + 1 >= length || text[at + 1] != '=') {
                    return NONE;
                }
                append(ARROW, at);
                return at + 2;
            }
            int begin = sign == '?' ? at + 1 : at;
            int behind = behindName(begin);
            if (behind == begin || behind - begin > LONGEST_NAME) {
                return NONE;
            }
            name[count] = names.intern(text, begin, behind - begin);
            append(sign == '?' ? VARIABLE : NAME, at);
            return behind;
        }

        private int behindName(int begin) {
            for (int i = begin; i < length; i++) {
                char sign = text[i];
                boolean letter = sign >= 'a' && sign <= 'z';
                boolean digit = sign >= '0' && sign <= '9';
                if (!letter && !digit && sign != '_') {
                    return i;
                }
            }
            return length;
        }

        private void append(int which, int where) {
            kind[count] = which;
            place[count] = where;
            count++;
        }
    }

    /**
     * A sheet that was read. Its terms and atoms are nodes, a node behind those of its parts, so
     * that all parts of node n are those from low[n] up to n. Variable v is labelled -1 - v.
     */
    private static final class Sheet {
        final Names names = new Names();
        final int[] label = new int[MOST_NODES];
        final int[] arity = new int[MOST_NODES];
        final int[] kids = new int[WIDTH * MOST_NODES];
        final int[] low = new int[MOST_NODES];
        final int[] vars = new int[MOST_NODES];
        int nodes = 0;

        final int[] head = new int[MOST_RULES];
        final int[] positive = new int[MOST_CONDITIONS * MOST_RULES];
        final int[] positives = new int[MOST_RULES];
        /** The variables that still matter behind each positive condition, as bits. */
        final int[] later = new int[MOST_CONDITIONS * MOST_RULES];
        /** Negative conditions as their atoms, and distinct as a node of that name. */
        final int[] other = new int[MOST_CONDITIONS * MOST_RULES];
        final int[] others = new int[MOST_RULES];
        int rules = 0;

        /** The rules in the order in which they are worked out, group by group. */
        final int[] order = new int[MOST_RULES];
        final int[] groupFrom = new int[MOST_RULES + 1];
        /** The rules of a group from here on depend on what the group itself brings. */
        final int[] recursiveFrom = new int[MOST_RULES];
        int groups = 0;
        /** The first groups, so many, are alike for all states and moves. */
        int fixedGroups = 0;

        void clear() {
            names.clear();
            nodes = 0;
            rules = 0;
        }

        /** A new node, of the parts that stand in a row from a place on. */
        int addNode(int name, int parts, int[] row, int begin) {
            int node = nodes;
            label[node] = name;
            arity[node] = parts;
            low[node] = parts == 0 ? node : low[row[begin]];
            vars[node] = name < 0 ? 1 << (-1 - name) : 0;
            for (int i = 0; i < parts; i++) {
                kids[WIDTH * node + i] = row[begin + i];
                vars[node] |= vars[row[begin + i]];
            }
            nodes++;
            return node;
        }

        int positiveOf(int rule, int i) {
            return positive[MOST_CONDITIONS * rule + i];
        }

        int otherOf(int rule, int i) {
            return other[MOST_CONDITIONS * rule + i];
        }

        void addPositive(int rule, int node) {
            positive[MOST_CONDITIONS * rule + positives[rule]] = node;
            positives[rule]++;
        }

        void addOther(int rule, int node) {
            other[MOST_CONDITIONS * rule + others[rule]] = node;
            others[rule]++;
        }

        /** Whether two nodes of one rule tell the same term. */
        boolean alike(int a, int b) {
            if (a - low[a] != b - low[b]) {
                return false;
            }
            for (int i = 0; i <= a - low[a]; i++) {
                int x = low[a] + i;
                int y = low[b] + i;
                if (label[x] != label[y] || arity[x] != arity[y]) {
                    return false;
                }
            }
            return true;
        }
    }

    /** Makes a sheet of tokens. It always stops at the very token that can't come there. */
    private static final class Parser {
        private final Tokens tokens;
        private Sheet sheet;
        private int at = 0;
        private final int[] variables = new int[MOST_VARIABLES];
        private int variableCount = 0;
        /** The parts of what is open, a stretch for each depth. */
        private final int[] parts = new int[WIDTH * (DEEPEST + 1)];

        Parser(Tokens from, Sheet to) {
            tokens = from;
            sheet = to;
        }

        /** The place of the token that can't come; NONE if all is well. */
        int parse(Sheet to) {
            sheet = to;
            at = 0;
            for (int rule = 0; rule < MOST_RULES; rule++) {
                if (!takeRule(rule)) {
                    return tokens.place[at];
                }
                sheet.rules = rule + 1;
                if (kind() == Tokens.END) {
                    return NONE;
                }
            }
            return tokens.place[at];
        }

        private int kind() {
            return tokens.kind[at];
        }

        private boolean takeRule(int rule) {
            variableCount = 0;
            sheet.positives[rule] = 0;
            sheet.others[rule] = 0;
            boolean arrow = kind() == Tokens.OPEN && tokens.kind[at + 1] == Tokens.ARROW;
            if (arrow) {
                at += 2;
            }
            sheet.head[rule] = takeTerm(arrow ? 1 : 0, true);
            if (sheet.head[rule] == NONE) {
                return false;
            }
            return !arrow || takeConditions(rule);
        }

        private boolean takeConditions(int rule) {
            for (int i = 0; i < MOST_CONDITIONS && kind() != Tokens.CLOSE; i++) {
                if (!takeCondition(rule)) {
                    return false;
                }
            }
            return close();
        }

        private boolean close() {
            boolean well = tokens.kind[at] == Tokens.CLOSE;
            if (well) {
                at++;
            }
            return well;
        }

        private boolean takeCondition(int rule) {
            int word = NONE;
            if (kind() == Tokens.OPEN && tokens.kind[at + 1] == Tokens.NAME) {
                word = tokens.name[at + 1];
            }
            if (word == NOT) {
                at += 2;
                int atom = takeTerm(2, true);
                if (atom == NONE) {
                    return false;
                }
                sheet.addOther(rule, atom);
                return close();
            }
            if (word == DISTINCT) {
                at += 2;
                int node = takeParts(DISTINCT, 2, 2, 2);
                if (node != NONE) {
                    sheet.addOther(rule, node);
                }
                return node != NONE;
            }
            int atom = takeTerm(1, true);
            if (atom != NONE) {
                sheet.addPositive(rule, atom);
            }
            return atom != NONE;
        }

        /** A term, or an atom, inside so many parentheses: its node, or NONE. */
        private int takeTerm(int depth, boolean atom) {
            if (kind() == Tokens.VARIABLE && !atom) {
                int variable = takeVariable();
                return variable == NONE ? NONE : sheet.addNode(-1 - variable, 0, parts, 0);
            }
            boolean open = kind() == Tokens.OPEN;
            if (open) {
                if (depth >= DEEPEST) {
                    return NONE;
                }
                at++;
            }
            if (kind() != Tokens.NAME || tokens.name[at] == NOT || tokens.name[at] == DISTINCT) {
                return NONE;
            }
            int name = tokens.name[at];
            at++;
            return open ? takeParts(name, depth + 1, 1, WIDTH) : sheet.addNode(name, 0, parts, 0);
        }

        private int takeParts(int name, int depth, int least, int most) {
            int many = 0;
            for (int i = 0; i < most && (i < least || kind() != Tokens.CLOSE); i++) {
                int part = takeTerm(depth, false);
                if (part == NONE) {
                    return NONE;
                }
                parts[WIDTH * depth + i] = part;
                many++;
            }
            return close() ? sheet.addNode(name, many, parts, WIDTH * depth) : NONE;
        }

        /** The variable's number in the rule; NONE if it is one too many. */
        private int takeVariable() {
            int name = tokens.name[at];
            int number = variableCount;
            for (int i = 0; i < variableCount; i++) {
                if (variables[i] == name) {
                    number = i;
                }
            }
            if (number == MOST_VARIABLES) {
                return NONE;
            }
            if (number == variableCount) {
                variables[number] = name;
                variableCount++;
            }
            at++;
            return number;
        }
    }

    /** Looks for the faults 2 to 7, and finds the order in which the rules are worked out. */
    private static final class Checker {
        /** The terms of the words' atoms, in the order of their numbers. */
        private static final int[] FIXED = {1, 1, 1, 1, 2, 2, 2, 0};
        private static final int TRUE_BIT = MOST_RULES;
        private static final int DOES_BIT = MOST_RULES + 1;
        private static final int BITS = MOST_RULES + 2;

        private int place = NONE;
        private Sheet sheet;
        private final int[] widths = new int[MOST_NAMES];
        /** The bit of a relation that is a head's, or true, or does; NONE for others. */
        private final int[] bit = new int[MOST_NAMES];
        private int heads = 0;
        /** What each relation depends on, as bits. */
        private final long[] needs = new long[BITS];
        private final boolean[] placed = new boolean[BITS];

        Checker(Sheet first) {
            sheet = first;
        }

        /** The kind of the first fault, its place kept; 0 if there is none. */
        int check(Sheet read) {
            sheet = read;
            place = findWidth();
            if (place != NONE) {
                return 2;
            }
            place = findWord();
            if (place != NONE) {
                return 3;
            }
            relate();
            place = findDependence();
            if (place != NONE) {
                return 4;
            }
            place = findUnsafe();
            if (place != NONE) {
                return 5;
            }
            place = findUnlayered();
            if (place != NONE) {
                return 6;
            }
            place = findUnbounded();
            if (place != NONE) {
                return 7;
            }
            plan();
            return 0;
        }

        private int headOf(int rule) {
            return sheet.label[sheet.head[rule]];
        }

        private int relationOf(int rule, int i) {
            return sheet.label[sheet.positiveOf(rule, i)];
        }

        private int otherRelationOf(int rule, int i) {
            return sheet.label[sheet.otherOf(rule, i)];
        }

        private int findWidth() {
            Arrays.fill(widths, NONE);
            System.arraycopy(FIXED, 0, widths, 0, FIXED.length);
            for (int rule = 0; rule < sheet.rules; rule++) {
                boolean well = hasWidth(sheet.head[rule]);
                for (int i = 0; i < sheet.positives[rule]; i++) {
                    well = well && hasWidth(sheet.positiveOf(rule, i));
                }
                for (int i = 0; i < sheet.others[rule]; i++) {
                    well = well && hasWidth(sheet.otherOf(rule, i));
                }
                if (!well) {
                    return rule;
                }
            }
            return NONE;
        }

        /** Whether an atom has so many terms as its relation; the first one settles that. */
        private boolean hasWidth(int atom) {
            int relation = sheet.label[atom];
            if (relation == DISTINCT) {
                return true;
            }
            if (widths[relation] == NONE) {
                widths[relation] = sheet.arity[atom];
            }
            return widths[relation] == sheet.arity[atom];
        }

        private int findWord() {
            for (int rule = 0; rule < sheet.rules; rule++) {
                int relation = headOf(rule);
                int conditions = sheet.positives[rule] + sheet.others[rule];
                boolean bad = relation == TRUE || relation == DOES;
                if (relation == ROLE) {
                    bad = conditions > 0 || sheet.vars[sheet.head[rule]] != 0;
                }
                for (int i = 0; i < sheet.positives[rule]; i++) {
                    bad = bad || isComing(relationOf(rule, i));
                }
                for (int i = 0; i < sheet.others[rule]; i++) {
                    bad = bad || isComing(otherRelationOf(rule, i));
                }
                if (bad) {
                    return rule;
                }
            }
            return NONE;
        }

        private static boolean isComing(int relation) {
            return relation == INIT || relation == NEXT;
        }

        /** Gives the relations bits, and finds what each depends on. */
        private void relate() {
            Arrays.fill(bit, NONE);
            Arrays.fill(needs, 0);
            heads = 0;
            for (int rule = 0; rule < sheet.rules; rule++) {
                if (bit[headOf(rule)] == NONE) {
                    bit[headOf(rule)] = heads;
                    heads++;
                }
            }
            bit[TRUE] = TRUE_BIT;
            bit[DOES] = DOES_BIT;
            for (int rule = 0; rule < sheet.rules; rule++) {
                int b = bit[headOf(rule)];
                for (int i = 0; i < sheet.positives[rule]; i++) {
                    needs[b] |= maskOf(relationOf(rule, i));
                }
                for (int i = 0; i < sheet.others[rule]; i++) {
                    needs[b] |= maskOf(otherRelationOf(rule, i));
                }
            }
            for (int via = 0; via < heads; via++) {
                for (int b = 0; b < heads; b++) {
                    if ((needs[b] >>> via & 1) != 0) {
                        needs[b] |= needs[via];
                    }
                }
            }
        }

        private long maskOf(int relation) {
            return bit[relation] == NONE ? 0 : 1L << bit[relation];
        }

        private boolean depends(int relation, int on) {
            if (bit[relation] == NONE || bit[on] == NONE) {
                return false;
            }
            return (needs[bit[relation]] >>> bit[on] & 1) != 0;
        }

        /** Whether a relation is another one, or depends on that. */
        private boolean restsOn(int relation, int on) {
            return relation == on || depends(relation, on);
        }

        private int findDependence() {
            if (depends(INIT, TRUE) || depends(INIT, DOES)) {
                return 0;
            }
            if (depends(LEGAL, DOES)) {
                return 1;
            }
            if (depends(GOAL, DOES)) {
                return 2;
            }
            return depends(TERMINAL, DOES) ? 3 : NONE;
        }

        private int findUnsafe() {
            for (int rule = 0; rule < sheet.rules; rule++) {
                int needed = sheet.vars[sheet.head[rule]];
                for (int i = 0; i < sheet.others[rule]; i++) {
                    needed |= sheet.vars[sheet.otherOf(rule, i)];
                }
                for (int i = 0; i < sheet.positives[rule]; i++) {
                    needed &= ~sheet.vars[sheet.positiveOf(rule, i)];
                }
                if (needed != 0) {
                    return rule;
                }
            }
            return NONE;
        }

        private int findUnlayered() {
            for (int rule = 0; rule < sheet.rules; rule++) {
                for (int i = 0; i < sheet.others[rule]; i++) {
                    int relation = otherRelationOf(rule, i);
                    if (relation != DISTINCT && restsOn(relation, headOf(rule))) {
                        return rule;
                    }
                }
            }
            return NONE;
        }

        private int findUnbounded() {
            for (int rule = 0; rule < sheet.rules; rule++) {
                for (int i = 0; i < sheet.positives[rule]; i++) {
                    if (restsOn(relationOf(rule, i), headOf(rule))
                            && !isBounded(rule, sheet.positiveOf(rule, i))) {
                        return rule;
                    }
                }
            }
            return NONE;
        }

        /** Whether each term with a variable of a recursive condition stands elsewhere, too. */
        private boolean isBounded(int rule, int atom) {
            for (int i = 0; i < sheet.arity[atom]; i++) {
                int term = sheet.kids[WIDTH * atom + i];
                if (sheet.vars[term] != 0 && !isHeld(rule, term)) {
                    return false;
                }
            }
            return true;
        }

        private boolean isHeld(int rule, int term) {
            if (hasTerm(sheet.head[rule], term)) {
                return true;
            }
            for (int i = 0; i < sheet.positives[rule]; i++) {
                if (!restsOn(relationOf(rule, i), headOf(rule))
                        && hasTerm(sheet.positiveOf(rule, i), term)) {
                    return true;
                }
            }
            return false;
        }

        private boolean hasTerm(int atom, int term) {
            for (int i = 0; i < sheet.arity[atom]; i++) {
                if (sheet.alike(sheet.kids[WIDTH * atom + i], term)) {
                    return true;
                }
            }
            return false;
        }

        /**
         * Groups of relations that depend on one another, each behind all that it depends on: what
         * depends on another group has more to depend on. What needs no state goes first.
         */
        private void plan() {
            for (int b = 0; b < heads; b++) {
                placed[b] = false;
            }
            sheet.groups = 0;
            sheet.groupFrom[0] = 0;
            for (int turn = 0; turn < 2 * BITS; turn++) {
                if (turn == BITS) {
                    sheet.fixedGroups = sheet.groups;
                }
                for (int b = 0; b < heads; b++) {
                    if (!placed[b] && turnOf(b) == turn) {
                        placeGroup(b);
                    }
                }
            }
        }

        private void findLater(int rule) {
            int matter = sheet.vars[sheet.head[rule]];
            for (int i = 0; i < sheet.others[rule]; i++) {
                matter |= sheet.vars[sheet.otherOf(rule, i)];
            }
            for (int i = sheet.positives[rule] - 1; i >= 0; i--) {
                sheet.later[MOST_CONDITIONS * rule + i] = matter;
                matter |= sheet.vars[sheet.positiveOf(rule, i)];
            }
        }

        private int turnOf(int b) {
            boolean free = (needs[b] & (1L << TRUE_BIT | 1L << DOES_BIT)) == 0;
            int many = Long.bitCount(needs[b] | 1L << b);
            return free ? many - 1 : BITS + many - 1;
        }

        private void placeGroup(int b) {
            int from = placeRules(b, false, sheet.groupFrom[sheet.groups]);
            int to = placeRules(b, true, from);
            sheet.recursiveFrom[sheet.groups] = from;
            sheet.groups++;
            sheet.groupFrom[sheet.groups] = to;
        }

        private int placeRules(int b, boolean recursive, int from) {
            int to = from;
            for (int rule = 0; rule < sheet.rules; rule++) {
                int c = bit[headOf(rule)];
                if (sameGroup(b, c) && isRecursive(rule) == recursive) {
                    placed[c] = true;
                    sheet.order[to] = rule;
                    to++;
                    findLater(rule);
                }
            }
            return to;
        }

        private boolean sameGroup(int b, int c) {
            return b == c || (needs[b] >>> c & 1) != 0 && (needs[c] >>> b & 1) != 0;
        }

        private boolean isRecursive(int rule) {
            for (int i = 0; i < sheet.positives[rule]; i++) {
                if (restsOn(relationOf(rule, i), headOf(rule))) {
                    return true;
                }
            }
            return false;
        }
    }

    /**
     * Terms without variables, each once, so that like terms are like numbers. A term comes behind
     * its parts, and the latest ones are dropped first.
     */
    private static final class Terms {
        private static final int FIRST_ROOM = 4 * MOST_NODES;
        /**
         * All that can be there at once: the terms of the sheet and of a rule at work, and those
         * with parts of all atoms that hold, of the state and its moves, and of the moves of a state
         * ahead, which are fewer than its joint moves and the roles together.
         */
        private static final int MOST_TERMS = 2 * MOST_NODES + MOST_TERM_WHOLES
                * (WIDTH * MOST_ATOMS + MOST_STATE_TERMS + MOST_ATOMS + MOST_JOINT_MOVES + MOST_ROLES);
        /** A power of two, above twice the most terms. */
        private static final int MOST_SLOTS = 131072;

        private Names names;
        private int[] label = new int[FIRST_ROOM];
        private int[] arity = new int[FIRST_ROOM];
        private int[] parts = new int[WIDTH * FIRST_ROOM];
        /** How many signs the text has. */
        private int[] signs = new int[FIRST_ROOM];
        /** It rests on the names alone, so it stays the same when a term is made again. */
        private int[] hash = new int[FIRST_ROOM];
        private int[] slot = new int[FIRST_ROOM];
        private int[] moved = new int[FIRST_ROOM];
        private int[] slots = new int[2 * FIRST_ROOM];
        private int count = 0;
        /** Where the parts stand of a term that is asked for. */
        private final int[] row = new int[WIDTH];

        Terms(Names of) {
            names = of;
        }

        void clear(Names of) {
            names = of;
            cut(0);
        }

        /** Drops all terms from a mark on; the latest first, so the slots become what they were. */
        void cut(int mark) {
            for (int t = count - 1; t >= mark; t--) {
                slots[slot[t]] = 0;
                count = t;
            }
        }

        /** Sees to it that there is place for so many terms more. */
        void reserve(int more) {
            if (count + more > label.length && label.length < MOST_TERMS) {
                grow();
            }
            if (count + more > label.length) {
                throw new UnsupportedOperationException("too many terms");
            }
        }

        /** Makes the rows anew, at once for the most terms, as what is dropped counts, too. */
        private void grow() {
            label = Arrays.copyOf(label, MOST_TERMS);
            arity = Arrays.copyOf(arity, MOST_TERMS);
            parts = Arrays.copyOf(parts, WIDTH * MOST_TERMS);
            signs = Arrays.copyOf(signs, MOST_TERMS);
            hash = Arrays.copyOf(hash, MOST_TERMS);
            slot = Arrays.copyOf(slot, MOST_TERMS);
            moved = new int[MOST_TERMS];
            slots = new int[MOST_SLOTS];
            for (int t = 0; t < count; t++) {
                int free = hash[t] & (slots.length - 1);
                for (int i = 0; i < slots.length && slots[free] != 0; i++) {
                    free = (free + 1) & (slots.length - 1);
                }
                slots[free] = t + 1;
                slot[t] = free;
            }
        }

        /** The term of a name and the parts in the row; place for it was made before. */
        int intern(int name, int many) {
            int mix = name * 0x9E3779B1 + many;
            for (int i = 0; i < many; i++) {
                mix = ((mix ^ (mix >>> 15)) + hash[row[i]]) * 0x85EBCA6B;
            }
            mix ^= mix >>> 13;
            int free = mix & (slots.length - 1);
            for (int i = 0; i < slots.length && slots[free] != 0; i++) {
                int t = slots[free] - 1;
                int same = 0;
                if (hash[t] == mix && label[t] == name && arity[t] == many) {
                    while (same < many && parts[WIDTH * t + same] == row[same]) {
                        same++;
                    }
                    if (same == many) {
                        return t;
                    }
                }
                free = (free + 1) & (slots.length - 1);
            }
            int extent = names.from[name + 1] - names.from[name] + (many == 0 ? 0 : 2 + many);
            for (int i = 0; i < many; i++) {
                parts[WIDTH * count + i] = row[i];
                extent += signs[row[i]];
            }
            label[count] = name;
            arity[count] = many;
            signs[count] = extent;
            hash[count] = mix;
            slot[count] = free;
            count++;
            slots[free] = count;
            return count - 1;
        }

        /** Of the terms from a mark on only those of a list stay, with their parts, renumbered. */
        void keep(int[] list, int many, int mark) {
            int before = count;
            for (int t = mark; t < before; t++) {
                moved[t] = NONE;
            }
            for (int i = 0; i < many; i++) {
                flag(list[i], mark);
            }
            // A part is below its whole: from the top down each flag is set before it is passed.
            for (int t = before - 1; t >= mark; t--) {
                for (int k = 0; k < arity[t] && moved[t] != NONE; k++) {
                    flag(parts[WIDTH * t + k], mark);
                }
            }
            cut(mark);
            // What stays never passes the place that is read, so the old rows are still there.
            for (int t = mark; t < before; t++) {
                if (moved[t] != NONE) {
                    for (int k = 0; k < arity[t]; k++) {
                        row[k] = placeOf(parts[WIDTH * t + k], mark);
                    }
                    moved[t] = intern(label[t], arity[t]);
                }
            }
            for (int i = 0; i < many; i++) {
                list[i] = placeOf(list[i], mark);
            }
        }

        private void flag(int t, int mark) {
            if (t >= mark) {
                moved[t] = 0;
            }
        }

        private int placeOf(int t, int mark) {
            return t < mark ? t : moved[t];
        }

        /** Puts a term where it belongs, by the order of texts, into a row from begin to end. */
        void insert(int[] list, int begin, int end, int term) {
            int low = begin;
            int high = end;
            for (int i = begin; i <= end && low < high; i++) {
                int middle = (low + high) / 2;
                if (compare(list[middle], term) < 0) {
                    low = middle + 1;
                } else {
                    high = middle;
                }
            }
            System.arraycopy(list, low, list, low + 1, end - low);
            list[low] = term;
        }

        /** Puts terms in an order that is quick, and the same whenever they are made again. */
        void arrange(int[] list, int many) {
            for (int i = 1; i < many; i++) {
                int term = list[i];
                int at = i;
                while (at > 0 && isBehind(list[at - 1], term)) {
                    list[at] = list[at - 1];
                    at--;
                }
                list[at] = term;
            }
        }

        private boolean isBehind(int a, int b) {
            return hash[a] > hash[b] || hash[a] == hash[b] && compare(a, b) > 0;
        }

        /** The order of two texts: it lies in the first parts that are unlike. */
        private int compare(int a, int b) {
            int x = a;
            int y = b;
            for (int depth = 0; depth <= MOST_SIGNS && x != y; depth++) {
                if (arity[x] == 0 || arity[y] == 0 || label[x] != label[y]) {
                    // ( comes ahead of all signs of names
                    int ahead = (arity[x] == 0 ? 1 : 0) - (arity[y] == 0 ? 1 : 0);
                    return ahead != 0 ? ahead : names.compare(label[x], label[y]);
                }
                int many = Math.min(arity[x], arity[y]);
                int k = 0;
                while (k < many && parts[WIDTH * x + k] == parts[WIDTH * y + k]) {
                    k++;
                }
                if (k == many) {
                    // a blank comes ahead of )
                    return arity[y] - arity[x];
                }
                int part = parts[WIDTH * x + k];
                y = parts[WIDTH * y + k];
                x = part;
            }
            return 0;
        }

        /** Sign k of a term's text; 0 behind its end. */
        int signAt(int term, int k) {
            if (k >= signs[term]) {
                return 0;
            }
            int t = term;
            int at = k;
            for (int depth = 0; depth <= MOST_SIGNS && arity[t] > 0; depth++) {
                int name = label[t];
                if (at == 0) {
                    return '(';
                }
                at--;
                if (at < names.lengthOf(name)) {
                    return names.signOf(name, at);
                }
                at -= names.lengthOf(name);
                int part = 0;
                while (part < arity[t] && at > signs[parts[WIDTH * t + part]]) {
                    at -= 1 + signs[parts[WIDTH * t + part]];
                    part++;
                }
                if (part == arity[t]) {
                    return ')';
                }
                if (at == 0) {
                    return ' ';
                }
                at--;
                t = parts[WIDTH * t + part];
            }
            return names.signOf(label[t], at);
        }

        /** The number that a name of one to three digits tells, up to 100; NONE for others. */
        int numberOf(int term) {
            int digits = signs[term];
            if (arity[term] != 0 || digits > 3) {
                return NONE;
            }
            int number = 0;
            for (int i = 0; i < digits; i++) {
                int digit = names.signOf(label[term], i) - '0';
                if (digit < 0 || digit > 9) {
                    return NONE;
                }
                number = 10 * number + digit;
            }
            return number <= MOST_GOAL ? number : NONE;
        }
    }

    /** The atoms that hold, in the order in which they came; the latest ones are dropped first. */
    private static final class Facts {
        private static final int SLOTS = 4096;

        private final int[] relation = new int[MOST_ATOMS];
        private final int[] parts = new int[WIDTH * MOST_ATOMS];
        /** The atom of the same relation that came before. */
        private final int[] before = new int[MOST_ATOMS];
        private final int[] slot = new int[MOST_ATOMS];
        private final int[] slots = new int[SLOTS];
        /** The latest atom of each relation, and how many it has. */
        private final int[] latest = new int[MOST_NAMES];
        private final int[] many = new int[MOST_NAMES];
        private int count = 0;
        /** Where the terms stand of an atom that is asked for. */
        private final int[] row = new int[WIDTH];

        void cut(int mark) {
            for (int f = count - 1; f >= mark; f--) {
                slots[slot[f]] = 0;
                latest[relation[f]] = before[f];
                many[relation[f]]--;
                count = f;
            }
        }

        /** The slot of the atom in the row, or the free one where it would stand. */
        private int slotOf(int name, int width) {
            int mix = name * 0x9E3779B1;
            for (int i = 0; i < width; i++) {
                mix = ((mix ^ (mix >>> 15)) + row[i]) * 0x85EBCA6B;
            }
            int at = (mix ^ (mix >>> 13)) & (SLOTS - 1);
            for (int i = 0; i < SLOTS && slots[at] != 0; i++) {
                int f = slots[at] - 1;
                if (relation[f] == name) {
                    int same = 0;
                    while (same < width && parts[WIDTH * f + same] == row[same]) {
                        same++;
                    }
                    if (same == width) {
                        return at;
                    }
                }
                at = (at + 1) & (SLOTS - 1);
            }
            return at;
        }

        /** The number of the atom in the row; NONE if it doesn't hold. */
        int find(int name, int width) {
            return slots[slotOf(name, width)] - 1;
        }

        /** The atom in the row holds from now on. */
        void add(int name, int width) {
            int at = slotOf(name, width);
            if (slots[at] != 0) {
                return;
            }
            if (count >= MOST_ATOMS) {
                throw new UnsupportedOperationException("too many atoms");
            }
            relation[count] = name;
            for (int i = 0; i < width; i++) {
                parts[WIDTH * count + i] = row[i];
            }
            before[count] = many[name] == 0 ? NONE : latest[name];
            latest[name] = count;
            many[name]++;
            slot[count] = at;
            count++;
            slots[at] = count;
        }
    }

    /** Works out what holds of a state and moves by the rules of a sheet. */
    private static final class Model {
        private final Terms terms;
        private final Facts facts = new Facts();
        private Sheet sheet;
        private final int[] roles = new int[MOST_ROLES];
        private int roleCount = 0;

        /** The terms of the nodes: those without variables, and the latest of all. */
        private final int[] ground = new int[MOST_NODES];
        private final int[] made = new int[MOST_NODES];
        private final int[] binding = new int[MOST_VARIABLES];
        /** Which variables have a term now, as bits. */
        private int bound = 0;

        /** The rule at work; a condition that one new atom fulfils, and that atom. */
        private int rule = 0;
        private int given = NONE;
        private int newest = 0;

        /** What needs neither state nor moves is worked out once, and stays below these marks. */
        private int fixed = UNKNOWN;
        private int fixedFacts = 0;
        private int fixedTerms = 0;
        /** The terms up to here are still needed by the state and its moves. */
        private int kept = 0;
        private long work = 0;

        Model(Sheet first) {
            sheet = first;
            terms = new Terms(first.names);
        }

        void install(Sheet read) {
            sheet = read;
            facts.cut(0);
            terms.clear(sheet.names);
            for (int node = 0; node < sheet.nodes; node++) {
                if (sheet.vars[node] == 0) {
                    for (int k = 0; k < sheet.arity[node]; k++) {
                        terms.row[k] = ground[sheet.kids[WIDTH * node + k]];
                    }
                    ground[node] = terms.intern(sheet.label[node], sheet.arity[node]);
                }
            }
            fixed = UNKNOWN;
            kept = terms.count;
            findRoles();
        }

        private void findRoles() {
            roleCount = 0;
            for (int i = 0; i < sheet.rules; i++) {
                int atom = sheet.head[i];
                if (sheet.label[atom] == ROLE && roleCount < MOST_ROLES) {
                    int role = ground[sheet.kids[WIDTH * atom]];
                    if (!isRole(role)) {
                        roles[roleCount] = role;
                        roleCount++;
                    }
                }
            }
        }

        private boolean isRole(int term) {
            for (int i = 0; i < roleCount; i++) {
                if (roles[i] == term) {
                    return true;
                }
            }
            return false;
        }

        /** Works out once what is alike for all states; if that is too great, all is. */
        void fix() {
            if (fixed == UNKNOWN) {
                fixed = TOO_GREAT;
                for (int g = 0; g < sheet.fixedGroups; g++) {
                    int first = facts.count;
                    runPlain(g);
                    runRecursive(g, first);
                }
                fixedFacts = facts.count;
                fixedTerms = terms.count;
                kept = fixedTerms;
                fixed = KNOWN;
            }
            if (fixed == TOO_GREAT) {
                throw new UnsupportedOperationException("too great");
            }
        }

        /** Works out what holds of the state in a row and of some moves. */
        void workOut(int[] state, int size, int[] moves, int moved) {
            facts.cut(fixedFacts);
            for (int i = 0; i < size; i++) {
                facts.row[0] = state[i];
                facts.add(TRUE, 1);
            }
            for (int r = 0; r < moved; r++) {
                facts.row[0] = roles[r];
                facts.row[1] = moves[r];
                facts.add(DOES, 2);
            }
            for (int g = sheet.fixedGroups; g < sheet.groups; g++) {
                int first = facts.count;
                runPlain(g);
                runRecursive(g, first);
            }
            work = 0;
            for (int i = 0; i < sheet.rules; i++) {
                work += roomOf(i);
            }
        }

        /** The room of a rule for the atoms that hold now; it only grows as more come. */
        private long roomOf(int which) {
            long room = 1;
            for (int i = 0; i < sheet.positives[which]; i++) {
                if (facts.many[sheet.label[sheet.positiveOf(which, i)]] == 0) {
                    return 0;
                }
            }
            for (int i = 0; i < sheet.positives[which]; i++) {
                room *= facts.many[sheet.label[sheet.positiveOf(which, i)]];
                if (room > MOST_ROOM) {
                    throw new UnsupportedOperationException("too much room");
                }
            }
            return room;
        }

        /** Works out a group's rules that don't depend on what the group brings. */
        private void runPlain(int g) {
            given = NONE;
            newest = MOST_ATOMS;
            for (int i = sheet.groupFrom[g]; i < sheet.recursiveFrom[g]; i++) {
                rule = sheet.order[i];
                bound = 0;
                if (roomOf(rule) > 0) {
                    join(0);
                }
            }
        }

        /** Works out the group's other rules by each new atom in turn, with those before it. */
        private void runRecursive(int g, int first) {
            for (int f = first; f < facts.count && f < MOST_ATOMS; f++) {
                newest = f;
                for (int i = sheet.recursiveFrom[g]; i < sheet.groupFrom[g + 1]; i++) {
                    rule = sheet.order[i];
                    for (int k = 0; k < sheet.positives[rule]; k++) {
                        given = k;
                        bound = 0;
                        int atom = sheet.positiveOf(rule, k);
                        if (sheet.label[atom] == facts.relation[f] && roomOf(rule) > 0
                                && fits(atom, f)) {
                            join(0);
                        }
                    }
                }
            }
        }

        /** Finds atoms for the rule's positive conditions from the k-th on, in all ways. */
        private void join(int k) {
            if (k >= sheet.positives[rule]) {
                conclude();
                return;
            }
            if (k == given) {
                join(k + 1);
                return;
            }
            int atom = sheet.positiveOf(rule, k);
            // The new atom itself is taken again only behind the condition that it fulfils.
            int last = k < given ? newest - 1 : newest;
            if ((sheet.vars[atom] & ~bound) == 0) {
                int fact = lookUp(atom);
                if (fact != NONE && fact <= last) {
                    join(k + 1);
                }
                return;
            }
            int head = sheet.head[rule];
            if ((sheet.vars[head] & ~bound) == 0 && lookUp(head) != NONE) {
                // Whatever the other variables are, nothing new can come.
                return;
            }
            // If what it binds doesn't matter later, one atom is as good as all.
            int binds = sheet.vars[atom] & ~bound;
            boolean once = (binds & sheet.later[MOST_CONDITIONS * rule + k]) == 0;
            boolean over = false;
            int boundBefore = bound;
            int fact = facts.latest[sheet.label[atom]];
            for (int i = facts.many[sheet.label[atom]]; i > 0 && !over; i--) {
                if (fact <= last && fits(atom, fact)) {
                    join(k + 1);
                    over = once;
                }
                bound = boundBefore;
                fact = facts.before[fact];
            }
        }

        /** The number of the atom that a node tells, all its variables bound; NONE if none. */
        private int lookUp(int atom) {
            int mark = terms.count;
            terms.reserve(sheet.nodes);
            build(atom);
            int fact = facts.find(sheet.label[atom], sheet.arity[atom]);
            terms.cut(mark);
            return fact;
        }

        /** Whether an atom of the node's relation is as the node tells; binds its variables. */
        private boolean fits(int atom, int fact) {
            for (int k = 0; k < sheet.arity[atom]; k++) {
                made[sheet.kids[WIDTH * atom + k]] = facts.parts[WIDTH * fact + k];
            }
            for (int node = atom - 1; node >= sheet.low[atom]; node--) {
                int term = made[node];
                int label = sheet.label[node];
                if (sheet.vars[node] == 0) {
                    if (ground[node] != term) {
                        return false;
                    }
                    node = sheet.low[node];
                } else if (label < 0) {
                    int variable = -1 - label;
                    if ((bound >> variable & 1) == 0) {
                        binding[variable] = term;
                        bound |= 1 << variable;
                    } else if (binding[variable] != term) {
                        return false;
                    }
                } else {
                    if (terms.label[term] != label || terms.arity[term] != sheet.arity[node]) {
                        return false;
                    }
                    for (int k = 0; k < sheet.arity[node]; k++) {
                        made[sheet.kids[WIDTH * node + k]] = terms.parts[WIDTH * term + k];
                    }
                }
            }
            return true;
        }

        /** The head holds, if the negative conditions don't and what must be distinct is so. */
        private void conclude() {
            int mark = terms.count;
            terms.reserve(sheet.nodes);
            for (int i = 0; i < sheet.others[rule]; i++) {
                int node = sheet.otherOf(rule, i);
                int label = sheet.label[node];
                build(node);
                boolean well = label == DISTINCT
                        ? facts.row[0] != facts.row[1]
                        : facts.find(label, sheet.arity[node]) == NONE;
                terms.cut(mark);
                if (!well) {
                    return;
                }
            }
            int head = sheet.head[rule];
            build(head);
            for (int k = 0; k < sheet.arity[head]; k++) {
                if (terms.signs[facts.row[k]] > MOST_TERM_SIGNS) {
                    throw new UnsupportedOperationException("too long a term");
                }
            }
            facts.add(sheet.label[head], sheet.arity[head]);
        }

        /** Makes the terms of an atom's node and puts them in the row of the atom asked for. */
        private void build(int atom) {
            for (int node = sheet.low[atom]; node < atom; node++) {
                int label = sheet.label[node];
                if (sheet.vars[node] == 0) {
                    made[node] = ground[node];
                } else if (label < 0) {
                    made[node] = binding[-1 - label];
                } else {
                    for (int k = 0; k < sheet.arity[node]; k++) {
                        terms.row[k] = made[sheet.kids[WIDTH * node + k]];
                    }
                    made[node] = terms.intern(label, sheet.arity[node]);
                }
            }
            for (int k = 0; k < sheet.arity[atom]; k++) {
                facts.row[k] = made[sheet.kids[WIDTH * atom + k]];
            }
        }

        /** Puts the terms of a relation's atoms into a row: how many they are. */
        int collect(int relation, int[] row) {
            int many = facts.many[relation];
            if (many > MOST_STATE_TERMS) {
                throw new UnsupportedOperationException("too great a state");
            }
            int fact = facts.latest[relation];
            for (int i = 0; i < many; i++) {
                row[i] = facts.parts[WIDTH * fact];
                fact = facts.before[fact];
            }
            return many;
        }
    }

    /** What a state without moves tells: the moves of each role in order, the goals, the end. */
    private static final class View {
        private final int[] row = new int[MOST_ATOMS];
        private final int[] from = new int[MOST_ROLES + 1];
        private final int[] goals = new int[MOST_ROLES];
        private boolean ended = false;
        private int roles = 0;
        /** A move for each role. */
        private final int[] chosen = new int[MOST_ROLES];

        void gather(Model model) {
            roles = model.roleCount;
            ended = model.facts.many[TERMINAL] > 0;
            for (int r = 0; r < roles; r++) {
                from[r + 1] = gatherMoves(model, r);
                goals[r] = findGoal(model, r);
            }
        }

        private int gatherMoves(Model model, int r) {
            Facts facts = model.facts;
            int to = from[r];
            int fact = facts.latest[LEGAL];
            for (int i = facts.many[LEGAL]; i > 0; i--) {
                if (facts.parts[WIDTH * fact] == model.roles[r]) {
                    model.terms.insert(row, from[r], to, facts.parts[WIDTH * fact + 1]);
                    to++;
                }
                fact = facts.before[fact];
            }
            return to;
        }

        private int findGoal(Model model, int r) {
            Facts facts = model.facts;
            int found = NONE;
            int fact = facts.latest[GOAL];
            for (int i = facts.many[GOAL]; i > 0; i--) {
                if (facts.parts[WIDTH * fact] == model.roles[r]) {
                    int number = model.terms.numberOf(facts.parts[WIDTH * fact + 1]);
                    if (number != NONE) {
                        found = found == NONE || found == number ? number : SEVERAL;
                    }
                }
                fact = facts.before[fact];
            }
            return found;
        }

        int many(int r) {
            return from[r + 1] - from[r];
        }

        int move(int r, int i) {
            return row[from[r] + i];
        }

        /** How many moves all roles have together. */
        int total() {
            return roles == 0 ? 0 : from[roles];
        }

        /** How many joint moves there are; without roles none. */
        long joint() {
            long product = roles == 0 ? 0 : 1;
            for (int r = 0; r < roles; r++) {
                product *= many(r);
            }
            return product;
        }

        /** Chooses the moves of joint move j, the last role's the fastest to change. */
        void choose(int j) {
            int rest = j;
            for (int r = roles - 1; r >= 0; r--) {
                int many = many(r);
                if (many > 0) {
                    chosen[r] = move(r, rest % many);
                    rest /= many;
                }
            }
        }
    }

    /**
     * The terms of the states that have been found, always in the same order. They are told name by
     * name, a whole ahead of its parts, so they outlast the terms that they were made of.
     */
    private static final class Store {
        private static final int STATE_NAMES = MOST_STATE_TERMS * MOST_TERM_NAMES;
        private static final int FIRST_ROOM = 8 * STATE_NAMES;
        /** One more than all states: each is first told behind the others, then looked for. */
        private static final int MOST_CODES = (MOST_STATES + 1) * STATE_NAMES;
        /** A code is that many times a name's number, and how many parts it has. */
        private static final int STEP = 8;

        private short[] codes = new short[FIRST_ROOM];
        /** Where the codes of each state begin; those of the next one begin where they end. */
        private final int[] from = new int[MOST_STATES + 2];
        private final int[] sums = new int[MOST_STATES + 1];
        private int count = 0;
        /** Where the terms of a state stand that are made again, and for a while their parts. */
        private final int[] row = new int[MOST_STATE_TERMS + MOST_TERM_NAMES];
        /** What is still to be told of a term. */
        private final int[] open = new int[MOST_TERM_NAMES];

        /** The number of the state of some terms, arranged; a new one gets the next. */
        int intern(int[] list, int many, Terms terms) {
            tell(list, many, terms);
            for (int n = 0; n < count; n++) {
                if (sums[n] == sums[count] && isLatest(n)) {
                    return n;
                }
            }
            if (count >= MOST_STATES) {
                throw new UnsupportedOperationException("too many states");
            }
            count++;
            return count - 1;
        }

        /** Tells the terms of a state behind those of all others. */
        private void tell(int[] list, int many, Terms terms) {
            int at = from[count];
            if (at + STATE_NAMES > codes.length) {
                codes = Arrays.copyOf(codes, MOST_CODES);
            }
            sums[count] = 0;
            for (int i = 0; i < many; i++) {
                at = tellTerm(list[i], at, terms);
                sums[count] += terms.hash[list[i]];
            }
            from[count + 1] = at;
        }

        private int tellTerm(int term, int begin, Terms terms) {
            int at = begin;
            int left = 1;
            open[0] = term;
            for (int i = 0; i < MOST_TERM_NAMES && left > 0; i++) {
                left--;
                int t = open[left];
                codes[at] = (short) (STEP * terms.label[t] + terms.arity[t]);
                at++;
                for (int k = terms.arity[t] - 1; k >= 0; k--) {
                    open[left] = terms.parts[WIDTH * t + k];
                    left++;
                }
            }
            return at;
        }

        private boolean isLatest(int n) {
            int many = from[n + 1] - from[n];
            if (many != from[count + 1] - from[count]) {
                return false;
            }
            for (int i = 0; i < many; i++) {
                if (codes[from[n] + i] != codes[from[count] + i]) {
                    return false;
                }
            }
            return true;
        }

        /** Makes the terms of state n and puts them in the row, the last first: how many. */
        int load(int n, Terms terms) {
            terms.reserve(from[n + 1] - from[n]);
            int many = 0;
            // From the back, so that the parts of a whole are the latest ones when it comes.
            for (int i = from[n + 1] - 1; i >= from[n]; i--) {
                int parts = codes[i] % STEP;
                for (int k = 0; k < parts; k++) {
                    many--;
                    terms.row[k] = row[many];
                }
                row[many] = terms.intern(codes[i] / STEP, parts);
                many++;
            }
            return many;
        }
    }

    /** All states of a sheet, what leads from each to which, and what they are worth. */
    private static final class States {
        private static final int UNSETTLED = -1;

        private int roles = 0;
        private int count = 0;
        private final Store store = new Store();
        private final int[] sizes = new int[MOST_STATES];
        private final boolean[] ended = new boolean[MOST_STATES];
        private final int[] joints = new int[MOST_STATES];
        private final int[] nexts = new int[MOST_JOINT_MOVES * MOST_STATES];
        /** How many moves, and which goals, the first two roles have. */
        private final int[] firstMoves = new int[MOST_STATES];
        private final int[] secondMoves = new int[MOST_STATES];
        private final int[] firstGoals = new int[MOST_STATES];
        private final int[] secondGoals = new int[MOST_STATES];
        private final int[] values = new int[MOST_STATES];
        private final int[] bests = new int[MOST_STATES];
        private int flaw = 0;
        private int flawed = NONE;
        /** States still to be gone on from, and which have been come to. */
        private final int[] queue = new int[MOST_STATES];
        private final boolean[] reached = new boolean[MOST_STATES];

        void clear(int roleCount) {
            roles = roleCount;
            count = 0;
            store.count = 0;
        }

        /** The number of the state of some terms, arranged; a new one gets the next. */
        int enter(int[] list, int many, Terms terms) {
            int n = store.intern(list, many, terms);
            sizes[n] = many;
            count = store.count;
            return n;
        }

        /** Keeps what a state tells without moves. */
        void look(int n, View view) {
            ended[n] = view.ended;
            long joint = view.ended ? 0 : view.joint();
            if (joint > MOST_JOINT_MOVES) {
                throw new UnsupportedOperationException("too many joint moves");
            }
            joints[n] = (int) joint;
            if (roles == 2) {
                firstMoves[n] = view.many(0);
                secondMoves[n] = view.many(1);
                firstGoals[n] = view.goals[0];
                secondGoals[n] = view.goals[1];
            }
        }

        /** Finds the first defect; without one, all values. */
        void judge() {
            flaw = 0;
            flawed = NONE;
            if (roles != 2) {
                flaw = 1;
                return;
            }
            for (int n = 0; n < count && flaw == 0; n++) {
                flaw = flawOf(n);
                flawed = flaw == 0 ? NONE : n;
            }
            if (flaw == 0 && !settleAll()) {
                flaw = 6;
                flawed = findReturn();
            }
        }

        private int flawOf(int n) {
            if (!ended[n]) {
                if (firstMoves[n] == 0 || secondMoves[n] == 0) {
                    return 2;
                }
                return firstMoves[n] > 1 && secondMoves[n] > 1 ? 3 : 0;
            }
            if (firstGoals[n] < 0 || secondGoals[n] < 0) {
                return 4;
            }
            return firstGoals[n] + secondGoals[n] == MOST_GOAL ? 0 : 5;
        }

        /** Finds the values from the ends on; false if some have none, as the states turn round. */
        private boolean settleAll() {
            Arrays.fill(values, UNSETTLED);
            int settled = 0;
            for (int pass = 0; pass < count && settled < count; pass++) {
                int before = settled;
                for (int n = count - 1; n >= 0; n--) {
                    if (values[n] == UNSETTLED && settle(n)) {
                        settled++;
                    }
                }
                if (settled == before) {
                    return false;
                }
            }
            return settled == count;
        }

        private boolean settle(int n) {
            if (ended[n]) {
                values[n] = firstGoals[n];
                bests[n] = NONE;
                return true;
            }
            int from = MOST_JOINT_MOVES * n;
            int best = 0;
            for (int j = 0; j < joints[n]; j++) {
                int worth = values[nexts[from + j]];
                if (worth == UNSETTLED) {
                    return false;
                }
                int bestWorth = values[nexts[from + best]];
                if (firstMoves[n] > 1 ? worth > bestWorth : worth < bestWorth) {
                    best = j;
                }
            }
            values[n] = values[nexts[from + best]];
            bests[n] = best;
            return true;
        }

        /** The least state from which one can come to it again. */
        private int findReturn() {
            for (int n = 0; n < count; n++) {
                if (returns(n)) {
                    return n;
                }
            }
            return NONE;
        }

        private boolean returns(int n) {
            for (int i = 0; i < count; i++) {
                reached[i] = false;
            }
            queue[0] = n;
            int filled = 1;
            for (int i = 0; i < filled && i < MOST_STATES; i++) {
                int from = queue[i];
                for (int j = 0; j < joints[from]; j++) {
                    int to = nexts[MOST_JOINT_MOVES * from + j];
                    if (to == n) {
                        return true;
                    }
                    if (!reached[to]) {
                        reached[to] = true;
                        queue[filled] = to;
                        filled++;
                    }
                }
            }
            return false;
        }
    }
}

import java.util.ArrayList;
import java.util.HashMap;
import java.util.HashSet;
import java.util.LinkedHashMap;
import java.util.LinkedHashSet;
import java.util.List;
import java.util.Map;
import java.util.Set;
import java.util.TreeSet;

/**
 * The document once more, in the plainest form that can be thought of: texts for terms, sets of
 * texts for states, and rules worked out again and again until nothing new comes. Tests compare
 * the program with it.
 */
final class Oracle {
    static final class Fault extends Exception {
        private static final long serialVersionUID = 1L;
        final int kind;
        final int place;

        Fault(int kind, int place) {
            super(null, null, false, false);
            this.kind = kind;
            this.place = place;
        }
    }

    /** A term or an atom: a name with parts; a variable's name begins with a ? . */
    record Node(String name, List<Node> parts) {
        boolean isVariable() {
            return name.charAt(0) == '?';
        }

        void variables(Set<String> into) {
            if (isVariable()) {
                into.add(name);
            }
            for (Node part : parts) {
                part.variables(into);
            }
        }

        Set<String> variables() {
            Set<String> all = new HashSet<>();
            variables(all);
            return all;
        }

        Node with(Map<String, Node> bound) {
            if (isVariable()) {
                return bound.get(name);
            }
            List<Node> made = new ArrayList<>();
            for (Node part : parts) {
                made.add(part.with(bound));
            }
            return new Node(name, made);
        }

        String text() {
            if (parts.isEmpty()) {
                return name;
            }
            StringBuilder text = new StringBuilder("(").append(name);
            for (Node part : parts) {
                text.append(' ').append(part.text());
            }
            return text.append(')').toString();
        }
    }

    /** kind: 0 positive, 1 negative, 2 distinct. */
    record Condition(int kind, Node atom) {
    }

    record Rule(Node head, List<Condition> conditions) {
    }

    record Token(char kind, String text, int place) {
    }

    private final StringBuilder text = new StringBuilder();
    private int faultPlace = -1;
    private List<Rule> rules = null;
    private List<Node> roles = null;
    private Map<String, Integer> stratum = null;

    private List<Node> state = null;
    private List<List<Node>> moves = null;
    private boolean ended = false;
    private int[] goals = null;

    private List<List<Node>> states = null;
    private List<Boolean> ends = null;
    private List<int[]> nexts = null;
    private int defectKind = 0;
    private int defectState = -1;
    private int[] values = null;
    private long work = 0;

    // ---- the text

    int put(int signs) {
        StringBuilder more = new StringBuilder();
        for (int i = 0; i < 4; i++) {
            int sign = signs >>> (8 * i) & 0xff;
            if (sign == 0) {
                continue;
            }
            if (sign != 10 && (sign < 32 || sign > 126)) {
                throw new IllegalArgumentException();
            }
            more.append((char) sign);
        }
        if (text.length() + more.length() > 2000) {
            throw new UnsupportedOperationException();
        }
        return text.append(more).length();
    }

    void end(int n) {
        if (n < 0 || n > text.length()) {
            throw new IllegalArgumentException();
        }
        text.setLength(n);
    }

    int read() {
        try {
            List<Rule> found = new Reader(tokens(text.toString())).sheet();
            check(found);
            rules = found;
            roles = new ArrayList<>();
            for (Rule rule : rules) {
                if (rule.head.name.equals("role")) {
                    Node role = rule.head.parts.get(0);
                    if (roles.size() < 4 && !roles.contains(role)) {
                        roles.add(role);
                    }
                }
            }
            state = null;
            moves = null;
            states = null;
            stratum = strata(rules);
            faultPlace = -1;
            return 0;
        } catch (Fault fault) {
            faultPlace = fault.place;
            return fault.kind;
        }
    }

    int fault() {
        return faultPlace;
    }

    private static List<Token> tokens(String text) {
        List<Token> all = new ArrayList<>();
        java.util.regex.Pattern form = java.util.regex.Pattern.compile(
                "(;[^\n]*)|([ \n]+)|([()])|(<=)|(\\?[a-z0-9_]+)|([a-z0-9_]+)|(.)",
                java.util.regex.Pattern.DOTALL);
        java.util.regex.Matcher m = form.matcher(text);
        while (m.find()) {
            int place = m.start();
            String token = m.group();
            if (m.group(1) != null || m.group(2) != null) {
                continue;
            }
            if (m.group(3) != null) {
                all.add(new Token(token.charAt(0), token, place));
            } else if (m.group(4) != null) {
                all.add(new Token('<', token, place));
            } else if (m.group(5) != null) {
                all.add(new Token(token.length() > 17 ? '!' : '?', token, place));
            } else if (m.group(6) != null) {
                all.add(new Token(token.length() > 16 ? '!' : 'a', token, place));
            } else {
                all.add(new Token('!', token, place));
            }
        }
        all.add(new Token('$', "", text.length()));
        return all;
    }

    /** Reads tokens by the grammar, and refuses at the first that has no place in it. */
    private static final class Reader {
        private final List<Token> tokens;
        private int at = 0;
        private int open = 0;
        private Set<String> variables = new HashSet<>();

        Reader(List<Token> tokens) {
            this.tokens = tokens;
        }

        private Token peek() {
            return tokens.get(at);
        }

        private Fault bad() {
            return new Fault(1, peek().place);
        }

        private Token take(char kind) throws Fault {
            Token token = peek();
            if (token.kind != kind) {
                throw bad();
            }
            if (kind == '(') {
                if (open == 10) {
                    throw bad();
                }
                open++;
            }
            if (kind == ')') {
                open--;
            }
            at++;
            return token;
        }

        private String name() throws Fault {
            if (peek().text.equals("not") || peek().text.equals("distinct")) {
                throw bad();
            }
            return take('a').text;
        }

        List<Rule> sheet() throws Fault {
            List<Rule> all = new ArrayList<>();
            do {
                if (all.size() == 60) {
                    throw bad();
                }
                variables = new HashSet<>();
                all.add(rule());
            } while (peek().kind != '$');
            return all;
        }

        private Rule rule() throws Fault {
            List<Condition> conditions = new ArrayList<>();
            if (peek().kind == 'a') {
                return new Rule(new Node(name(), List.of()), conditions);
            }
            take('(');
            if (peek().kind != '<') {
                return new Rule(inside(), conditions);
            }
            take('<');
            Node head = atom();
            while (peek().kind != ')') {
                if (conditions.size() == 8) {
                    throw bad();
                }
                conditions.add(condition());
            }
            take(')');
            return new Rule(head, conditions);
        }

        private Condition condition() throws Fault {
            if (peek().kind == 'a') {
                return new Condition(0, new Node(name(), List.of()));
            }
            take('(');
            if (peek().text.equals("not")) {
                at++;
                Node atom = atom();
                take(')');
                return new Condition(1, atom);
            }
            if (peek().text.equals("distinct")) {
                at++;
                Node one = term();
                Node two = term();
                take(')');
                return new Condition(2, new Node("distinct", List.of(one, two)));
            }
            return new Condition(0, inside());
        }

        private Node atom() throws Fault {
            if (peek().kind == 'a') {
                return new Node(name(), List.of());
            }
            take('(');
            return inside();
        }

        /** What comes behind a parenthesis: a name, one to four terms, and the other one. */
        private Node inside() throws Fault {
            String name = name();
            List<Node> parts = new ArrayList<>();
            do {
                if (parts.size() == 4) {
                    throw bad();
                }
                parts.add(term());
            } while (peek().kind != ')');
            take(')');
            return new Node(name, parts);
        }

        private Node term() throws Fault {
            if (peek().kind == '?') {
                if (!variables.contains(peek().text)) {
                    if (variables.size() == 8) {
                        throw bad();
                    }
                    variables.add(peek().text);
                }
                return new Node(take('?').text, List.of());
            }
            return atom();
        }
    }

    // ---- the faults

    private static void check(List<Rule> rules) throws Fault {
        checkNumbers(rules);
        checkWords(rules);
        Map<String, Set<String>> needs = dependence(rules);
        checkDependence(needs);
        for (int i = 0; i < rules.size(); i++) {
            Rule rule = rules.get(i);
            Set<String> loose = rule.head.variables();
            for (Condition c : rule.conditions) {
                if (c.kind != 0) {
                    loose.addAll(c.atom.variables());
                }
            }
            for (Condition c : rule.conditions) {
                if (c.kind == 0) {
                    loose.removeAll(c.atom.variables());
                }
            }
            if (!loose.isEmpty()) {
                throw new Fault(5, i);
            }
        }
        for (int i = 0; i < rules.size(); i++) {
            for (Condition c : rules.get(i).conditions) {
                if (c.kind == 1 && rests(needs, c.atom.name, rules.get(i).head.name)) {
                    throw new Fault(6, i);
                }
            }
        }
        for (int i = 0; i < rules.size(); i++) {
            checkRecursion(rules.get(i), i, needs);
        }
    }

    private static void checkNumbers(List<Rule> rules) throws Fault {
        Map<String, Integer> many = new HashMap<>(Map.of("role", 1, "init", 1, "true", 1, "next", 1,
                "does", 2, "legal", 2, "goal", 2, "terminal", 0));
        for (int i = 0; i < rules.size(); i++) {
            List<Node> atoms = new ArrayList<>();
            atoms.add(rules.get(i).head);
            for (Condition c : rules.get(i).conditions) {
                if (c.kind != 2) {
                    atoms.add(c.atom);
                }
            }
            for (Node atom : atoms) {
                Integer before = many.putIfAbsent(atom.name, atom.parts.size());
                if (before != null && before != atom.parts.size()) {
                    throw new Fault(2, i);
                }
            }
        }
    }

    private static void checkWords(List<Rule> rules) throws Fault {
        for (int i = 0; i < rules.size(); i++) {
            Rule rule = rules.get(i);
            String head = rule.head.name;
            if (head.equals("true") || head.equals("does")) {
                throw new Fault(3, i);
            }
            if (head.equals("role")
                    && (!rule.conditions.isEmpty() || !rule.head.variables().isEmpty())) {
                throw new Fault(3, i);
            }
            for (Condition c : rule.conditions) {
                if (c.kind != 2 && (c.atom.name.equals("init") || c.atom.name.equals("next"))) {
                    throw new Fault(3, i);
                }
            }
        }
    }

    private static Map<String, Set<String>> dependence(List<Rule> rules) {
        Map<String, Set<String>> needs = new HashMap<>();
        boolean more = true;
        while (more) {
            more = false;
            for (Rule rule : rules) {
                Set<String> set = needs.computeIfAbsent(rule.head.name, k -> new HashSet<>());
                for (Condition c : rule.conditions) {
                    if (c.kind != 2) {
                        more |= set.add(c.atom.name);
                        more |= set.addAll(new HashSet<>(needs.getOrDefault(c.atom.name, Set.of())));
                    }
                }
            }
        }
        return needs;
    }

    private static void checkDependence(Map<String, Set<String>> needs) throws Fault {
        Set<String> none = Set.of();
        if (needs.getOrDefault("init", none).contains("true")
                || needs.getOrDefault("init", none).contains("does")) {
            throw new Fault(4, 0);
        }
        String[] words = {"legal", "goal", "terminal"};
        for (int i = 0; i < 3; i++) {
            if (needs.getOrDefault(words[i], none).contains("does")) {
                throw new Fault(4, i + 1);
            }
        }
    }

    private static boolean rests(Map<String, Set<String>> needs, String relation, String on) {
        return relation.equals(on) || needs.getOrDefault(relation, Set.of()).contains(on);
    }

    private static void checkRecursion(Rule rule, int number, Map<String, Set<String>> needs)
            throws Fault {
        List<Node> fine = new ArrayList<>(rule.head.parts);
        for (Condition c : rule.conditions) {
            if (c.kind == 0 && !rests(needs, c.atom.name, rule.head.name)) {
                fine.addAll(c.atom.parts);
            }
        }
        for (Condition c : rule.conditions) {
            if (c.kind == 0 && rests(needs, c.atom.name, rule.head.name)) {
                for (Node term : c.atom.parts) {
                    if (!term.variables().isEmpty() && !fine.contains(term)) {
                        throw new Fault(7, number);
                    }
                }
            }
        }
    }

    private static Map<String, Integer> strata(List<Rule> rules) {
        Map<String, Integer> stratum = new HashMap<>();
        boolean more = true;
        while (more) {
            more = false;
            for (Rule rule : rules) {
                int least = stratum.getOrDefault(rule.head.name, 0);
                for (Condition c : rule.conditions) {
                    if (c.kind != 2) {
                        int below = stratum.getOrDefault(c.atom.name, 0) + (c.kind == 1 ? 1 : 0);
                        least = Math.max(least, below);
                    }
                }
                if (least != stratum.getOrDefault(rule.head.name, 0)) {
                    stratum.put(rule.head.name, least);
                    more = true;
                }
            }
        }
        return stratum;
    }

    // ---- what holds

    private final class World {
        final Map<String, LinkedHashSet<Node>> atoms = new LinkedHashMap<>();
        int count = 0;
        long work = 0;

        World(List<Node> state, List<Node> moves) {
            for (Node term : state) {
                add(new Node("true", List.of(term)));
            }
            for (int r = 0; r < moves.size(); r++) {
                add(new Node("does", List.of(roles.get(r), moves.get(r))));
            }
            int top = 0;
            for (int s : stratum.values()) {
                top = Math.max(top, s);
            }
            for (int s = 0; s <= top; s++) {
                boolean more = true;
                while (more) {
                    int before = count;
                    for (Rule rule : rules) {
                        if (stratum.getOrDefault(rule.head.name, 0) == s && room(rule) > 0) {
                            join(rule, 0, new HashMap<>());
                        }
                    }
                    more = count > before;
                }
            }
            for (Rule rule : rules) {
                work += room(rule);
            }
        }

        Set<Node> of(String relation) {
            return atoms.getOrDefault(relation, new LinkedHashSet<>());
        }

        private void add(Node atom) {
            if (atoms.computeIfAbsent(atom.name, k -> new LinkedHashSet<>()).add(atom)) {
                count++;
                if (count > 1000) {
                    throw new UnsupportedOperationException();
                }
                for (Node term : atom.parts) {
                    if (term.text().length() > 48) {
                        throw new UnsupportedOperationException();
                    }
                }
            }
        }

        private long room(Rule rule) {
            java.math.BigInteger room = java.math.BigInteger.ONE;
            for (Condition c : rule.conditions) {
                if (c.kind == 0) {
                    room = room.multiply(java.math.BigInteger.valueOf(of(c.atom.name).size()));
                }
            }
            if (room.compareTo(java.math.BigInteger.valueOf(300000)) > 0) {
                throw new UnsupportedOperationException();
            }
            return room.longValue();
        }

        private void join(Rule rule, int k, Map<String, Node> bound) {
            if (k < rule.conditions.size()) {
                Condition c = rule.conditions.get(k);
                if (c.kind != 0) {
                    join(rule, k + 1, bound);
                    return;
                }
                for (Node atom : new ArrayList<>(of(c.atom.name))) {
                    Map<String, Node> more = new HashMap<>(bound);
                    if (fit(c.atom, atom, more)) {
                        join(rule, k + 1, more);
                    }
                }
                return;
            }
            for (Condition c : rule.conditions) {
                if (c.kind == 1 && of(c.atom.name).contains(c.atom.with(bound))) {
                    return;
                }
                if (c.kind == 2
                        && c.atom.parts.get(0).with(bound).equals(c.atom.parts.get(1).with(bound))) {
                    return;
                }
            }
            add(rule.head.with(bound));
        }

        private boolean fit(Node form, Node ground, Map<String, Node> bound) {
            if (form.isVariable()) {
                Node before = bound.putIfAbsent(form.name, ground);
                return before == null || before.equals(ground);
            }
            if (!form.name.equals(ground.name) || form.parts.size() != ground.parts.size()) {
                return false;
            }
            for (int i = 0; i < form.parts.size(); i++) {
                if (!fit(form.parts.get(i), ground.parts.get(i), bound)) {
                    return false;
                }
            }
            return true;
        }

        List<Node> terms(String relation) {
            List<Node> all = new ArrayList<>();
            for (Node atom : of(relation)) {
                all.add(atom.parts.get(0));
            }
            if (all.size() > 60) {
                throw new UnsupportedOperationException();
            }
            return sorted(all);
        }

        List<List<Node>> legal() {
            List<List<Node>> all = new ArrayList<>();
            for (Node role : roles) {
                List<Node> own = new ArrayList<>();
                for (Node atom : of("legal")) {
                    if (atom.parts.get(0).equals(role)) {
                        own.add(atom.parts.get(1));
                    }
                }
                all.add(sorted(own));
            }
            return all;
        }

        int[] goalsOfRoles() {
            int[] all = new int[roles.size()];
            for (int r = 0; r < all.length; r++) {
                TreeSet<Integer> numbers = new TreeSet<>();
                for (Node atom : of("goal")) {
                    String text = atom.parts.get(1).text();
                    if (atom.parts.get(0).equals(roles.get(r)) && text.matches("[0-9]{1,3}")
                            && Integer.parseInt(text) <= 100) {
                        numbers.add(Integer.parseInt(text));
                    }
                }
                all[r] = numbers.isEmpty() ? -1 : numbers.size() > 1 ? -2 : numbers.first();
            }
            return all;
        }
    }

    private static List<Node> sorted(List<Node> terms) {
        terms.sort((a, b) -> a.text().compareTo(b.text()));
        return terms;
    }

    /** The joint move j as its number tells; null if there is none. */
    private static List<Node> joint(List<List<Node>> moves, long j) {
        long many = moves.isEmpty() ? 0 : 1;
        for (List<Node> own : moves) {
            many *= own.size();
        }
        if (j >= many) {
            return null;
        }
        List<Node> chosen = new ArrayList<>();
        long below = many;
        long rest = j;
        for (List<Node> own : moves) {
            below /= own.size();
            chosen.add(own.get((int) (rest / below)));
            rest %= below;
        }
        return chosen;
    }

    // ---- the calls of the state

    private void needSheet() {
        if (rules == null) {
            throw new IllegalStateException();
        }
    }

    private void needState() {
        if (state == null) {
            throw new IllegalStateException();
        }
    }

    private void needRole(int r) {
        if (r < 0 || r >= roles.size()) {
            throw new IndexOutOfBoundsException();
        }
    }

    private void look() {
        if (moves == null) {
            World world = new World(state, List.of());
            moves = world.legal();
            ended = !world.of("terminal").isEmpty();
            goals = world.goalsOfRoles();
        }
    }

    int sheet(int what) {
        needSheet();
        if (what < 0 || what > 1) {
            throw new IllegalArgumentException();
        }
        return what == 0 ? rules.size() : roles.size();
    }

    int start() {
        needSheet();
        state = new World(List.of(), List.of()).terms("init");
        moves = null;
        return state.size();
    }

    int moves(int r) {
        needState();
        needRole(r);
        look();
        return moves.get(r).size();
    }

    boolean terminal() {
        needState();
        look();
        return ended;
    }

    int goal(int r) {
        needState();
        needRole(r);
        look();
        return goals[r];
    }

    int play(int j) {
        needState();
        if (j < 0 || roles.isEmpty()) {
            throw new IndexOutOfBoundsException();
        }
        look();
        List<Node> chosen = joint(moves, j);
        if (chosen == null) {
            throw new IndexOutOfBoundsException();
        }
        state = new World(state, chosen).terms("next");
        moves = null;
        return state.size();
    }

    int sign(int what, int i, int k) {
        needSheet();
        if (what < 0 || what > 5) {
            throw new IllegalArgumentException();
        }
        if (what != 5) {
            needState();
        }
        if (i < 0 || k < 0) {
            throw new IndexOutOfBoundsException();
        }
        List<Node> list = what == 0 ? state : roles;
        if (what >= 1 && what <= 4) {
            needRole(what - 1);
            look();
            list = moves.get(what - 1);
        }
        String told = list.get(i).text();
        return k < told.length() ? told.charAt(k) : 0;
    }

    // ---- all states

    private World weighed(List<Node> from, List<Node> chosen) {
        World world = new World(from, chosen);
        work += world.work;
        if (work > 30000000) {
            throw new UnsupportedOperationException();
        }
        return world;
    }

    int explore() {
        needSheet();
        if (states == null) {
            work = 0;
            List<List<Node>> found = new ArrayList<>();
            List<List<List<Node>>> legal = new ArrayList<>();
            List<int[]> goalsFound = new ArrayList<>();
            List<Boolean> endsFound = new ArrayList<>();
            List<int[]> nextsFound = new ArrayList<>();
            found.add(weighed(List.of(), List.of()).terms("init"));
            for (int n = 0; n < found.size(); n++) {
                World world = weighed(found.get(n), List.of());
                boolean over = !world.of("terminal").isEmpty();
                legal.add(world.legal());
                endsFound.add(over);
                goalsFound.add(world.goalsOfRoles());
                List<Integer> next = new ArrayList<>();
                for (int j = 0; !over && joint(legal.get(n), j) != null; j++) {
                    if (j == 40) {
                        throw new UnsupportedOperationException();
                    }
                    List<Node> to = weighed(found.get(n), joint(legal.get(n), j)).terms("next");
                    if (!found.contains(to)) {
                        found.add(to);
                    }
                    if (found.size() > 300) {
                        throw new UnsupportedOperationException();
                    }
                    next.add(found.indexOf(to));
                }
                nextsFound.add(next.stream().mapToInt(x -> x).toArray());
            }
            states = found;
            ends = endsFound;
            nexts = nextsFound;
            judge(legal, goalsFound);
        }
        return states.size();
    }

    private void judge(List<List<List<Node>>> legal, List<int[]> goalsFound) {
        defectKind = 0;
        defectState = -1;
        if (roles.size() != 2) {
            defectKind = 1;
            return;
        }
        for (int n = 0; n < states.size(); n++) {
            int one = legal.get(n).get(0).size();
            int two = legal.get(n).get(1).size();
            int[] g = goalsFound.get(n);
            int kind = 0;
            if (ends.get(n)) {
                kind = g[0] < 0 || g[1] < 0 ? 4 : g[0] + g[1] != 100 ? 5 : 0;
            } else {
                kind = one == 0 || two == 0 ? 2 : one > 1 && two > 1 ? 3 : 0;
            }
            if (kind != 0) {
                defectKind = kind;
                defectState = n;
                return;
            }
        }
        for (int n = 0; n < states.size(); n++) {
            Set<Integer> reach = new HashSet<>();
            List<Integer> open = new ArrayList<>(List.of(n));
            while (!open.isEmpty()) {
                for (int to : nexts.get(open.remove(open.size() - 1))) {
                    if (reach.add(to)) {
                        open.add(to);
                    }
                }
            }
            if (reach.contains(n)) {
                defectKind = 6;
                defectState = n;
                return;
            }
        }
        values = new int[states.size()];
        java.util.Arrays.fill(values, -1);
        worth(0, legal, goalsFound);
    }

    private int worth(int n, List<List<List<Node>>> legal, List<int[]> goalsFound) {
        if (values[n] >= 0) {
            return values[n];
        }
        int worth = 0;
        if (ends.get(n)) {
            worth = goalsFound.get(n)[0];
        } else {
            boolean most = legal.get(n).get(0).size() > 1;
            worth = most ? -1 : 101;
            for (int to : nexts.get(n)) {
                int other = worth(to, legal, goalsFound);
                worth = most ? Math.max(worth, other) : Math.min(worth, other);
            }
        }
        values[n] = worth;
        return worth;
    }

    private void needStates() {
        if (states == null) {
            throw new IllegalStateException();
        }
    }

    private void needNumber(int n) {
        if (n < 0 || n >= states.size()) {
            throw new IndexOutOfBoundsException();
        }
    }

    int defect(int what) {
        needStates();
        if (what < 0 || what > 1) {
            throw new IllegalArgumentException();
        }
        return what == 0 ? defectKind : defectState;
    }

    int state(int n, int what) {
        needStates();
        needNumber(n);
        switch (what) {
            case 0:
                return states.get(n).size();
            case 1:
                return ends.get(n) ? 1 : 0;
            case 2:
                return nexts.get(n).length;
            default:
                throw new IllegalArgumentException();
        }
    }

    int next(int n, int j) {
        needStates();
        needNumber(n);
        if (j < 0 || j >= nexts.get(n).length) {
            throw new IndexOutOfBoundsException();
        }
        return nexts.get(n)[j];
    }

    int value(int n) {
        needStates();
        if (defectKind != 0) {
            throw new IllegalStateException();
        }
        needNumber(n);
        return values[n];
    }

    int best(int n) {
        value(n);
        for (int j = 0; j < nexts.get(n).length; j++) {
            if (values[nexts.get(n)[j]] == values[n]) {
                return j;
            }
        }
        return -1;
    }
}

/**
 * The edges of terms 3 (what holds, and what is too great) and of terms 4 (states, roles, moves,
 * goals, orders). Above each test stands the sentence of the document that it belongs to.
 */
final class EdgeHoldTest {
    private static final Class<IndexOutOfBoundsException> NO_SUCH = IndexOutOfBoundsException.class;
    private static final Class<UnsupportedOperationException> TOO_GREAT = UnsupportedOperationException.class;

    private EdgeHoldTest() {
    }

    public static void main(String[] args) {
        trueOfTheState();
        doesOfTheMoves();
        allWays();
        positiveConditions();
        negativeConditions();
        distinctTerms();
        asLongAsAnythingNewComes();
        asLongAsAnythingNewComesOfStates();
        behindWhatCameOfItself();
        relationsAheadOfNot();
        justIfItHasTo();
        atomsThatHold();
        atomsOfTrue();
        atomsOfDoes();
        atomsWhateverIsAskedFor();
        signsOfATerm();
        signsOfAnyTerm();
        signsOfTermsThatGrow();
        signsOfWhatDoesNotHold();
        roomOfARule();
        roomOfOneMore();
        roomOfLikeConditions();
        roomOfWhatDoesNotCount();
        roomOfNoAtoms();
        roomOfTrue();
        roomOfDoes();
        roomThatOverflows();
        rolesOfTheSheet();
        furtherRoles();
        initialState();
        movesOfARole();
        terminalState();
        goalNumbers();
        goalsOnce();
        nextState();
        termsOfAState();
        termsOfANextState();
        orderOfSigns();
        orderOfEnds();
        orderOfMoves();
        jointMovesInOrder();
        jointMovesWithoutRoles();
        jointMovesBeyondInts();
        Check.finish("EdgeHoldTest");
    }

    private static String start(String text) {
        Game game = Game.of(text);
        return game.state(game.it.start());
    }

    private static Game started(String text) {
        Game game = Game.of(text);
        game.it.start();
        return game;
    }

    private static String set(String name, int many) {
        StringBuilder text = new StringBuilder();
        for (int i = 0; i < many; i++) {
            text.append("(").append(name).append(' ').append(i).append(")");
        }
        return text.toString();
    }

    /** Terms 3: "true(t) for each t of the state", and for no other. */
    private static void trueOfTheState() {
        Game game = started("(role r) (init a) (init (f b)) (legal r go) (<= (next (saw ?t)) (true ?t))");
        Check.due("play()", game.it.play(0), 2);
        Check.due("what was true", game.state(2), "(saw (f b)), (saw a)");
        Check.due("play() again", game.it.play(0), 2);
        Check.due("what was true then", game.state(2), "(saw (saw (f b))), (saw (saw a))");
        Check.due("nothing is true of no state", start("(<= p (true ?t)) (<= q (not p)) (init a)"), "a");
        Game none = started("(role r) (<= (legal r m) (true ?t)) (legal r n) (<= terminal (true a))");
        Check.due("nothing is true of an empty state", none.moves(0), "n");
        Check.due("so it isn't terminal", none.it.terminal() ? 1 : 0, 0);
    }

    /** Terms 3: "does(r, m) for each move", and none where there are no moves. */
    private static void doesOfTheMoves() {
        Game game = started("(role a) (role (b c)) (legal a m) (legal a n) (legal (b c) (m o)) (legal d x)"
                + "(<= (next (did ?r ?m)) (does ?r ?m))");
        Check.due("play(1)", game.it.play(1), 2);
        Check.due("what was done", game.state(2), "(did (b c) (m o)), (did a n)");
        Game next = started("(role r) (legal r m) (<= p (does ?r ?m)) (<= (next yes) p) (<= (next no) (not p))");
        Check.due("play(0)", next.it.play(0), 1);
        Check.due("something was done", next.state(1), "yes");
    }

    /** Terms 3: "for each way to put terms without variables in the place of a rule's variables". */
    private static void allWays() {
        Check.due("each with each", start("(p a) (p (f b)) (<= (init (g ?x ?y)) (p ?x) (p ?y))"),
                "(g (f b) (f b)), (g (f b) a), (g a (f b)), (g a a)");
        Check.due("one way for no variables", start("p (<= (init a) p) (<= (init b))"), "a, b");
        Check.due("like variables are alike", start("(p a b) (p b b) (<= (init ?x) (p ?x ?x))"), "b");
        Check.due("in several conditions", start("(p a b) (q b c) (q a d) (<= (init ?z) (p ?x ?y) (q ?y ?z))"), "c");
        Check.due("whole terms, too", start("(p (f a b)) (p c) (<= (init ?x) (p ?x))"), "(f a b), c");
        Check.due("eight variables", start("(p a b c d) (q e f g h)"
                + "(<= (init (t ?a ?b (t ?c ?d) (t ?e ?f ?g ?h))) (p ?a ?b ?c ?d) (q ?e ?f ?g ?h))"),
                "(t a b (t c d) (t e f g h))");
        Check.due("eight conditions", start("(p a) (s a b) (s b c) (s c a)"
                + "(<= (init ?h) (p ?a) (s ?a ?b) (s ?b ?c) (s ?c ?d) (s ?d ?e) (s ?e ?f) (s ?f ?g) (s ?g ?h))"), "b");
    }

    /** Terms 3: "so that its positive conditions hold": all of them. */
    private static void positiveConditions() {
        Check.due("all", start("p q (<= (init a) p q) (<= (init b) p q r) (<= (init c) r p q) (<= (init d) p r q)"), "a");
        Check.due("the very term", start("(p (f a)) (<= (init a) (p a)) (<= (init b) (p (f b))) (<= (init c) (p (f a)))"
                + "(<= (init d) (p (f a a)))"), "c");
        Check.due("the very name", start("(p (f a)) (<= (init ?x) (p (g ?x)))  (<= (init (f ?x)) (p (f ?x)))"), "(f a)");
        Check.due("a name isn't a whole", start("(p f) (<= (init ?x) (p (f ?x))) (init z)"), "z");
        Check.due("nor the other way", start("(p (f a)) (<= (init a) (p f)) (init z)"), "z");
    }

    /** Terms 3: "its negative ones don't": none of them. */
    private static void negativeConditions() {
        Check.due("one that holds", start("p (<= (init a) (not p)) (init z)"), "z");
        Check.due("one that doesn't", start("(<= (init a) (not p))"), "a");
        Check.due("each counts", start("p (<= (init a) (not q) (not r)) (<= (init b) (not p) (not q))"
                + "(<= (init c) (not q) (not p))"), "a");
        Check.due("the very term", start("(p (f a)) (<= (init a) (not (p a))) (<= (init b) (not (p (f a))))"), "a");
        Check.due("by ways", start("(n a) (n b) (n c) (p b) (<= (init ?x) (n ?x) (not (p ?x)))"), "a, c");
        Check.due("made of variables", start("(n a) (n b) (p (f b)) (<= (init ?x) (n ?x) (not (p (f ?x))))"), "a");
    }

    /** Terms 3: "and terms that must be distinct are so": whole terms, by their texts. */
    private static void distinctTerms() {
        Check.due("unlike names", start("(<= (init a) (distinct b c)) (<= (init b) (distinct c c))"), "a");
        Check.due("a name and a whole", start("(<= (init a) (distinct f (f f)))"), "a");
        Check.due("wholes", start("(<= (init a) (distinct (f a b) (f a b))) (<= (init b) (distinct (f a b) (f a)))"
                + "(<= (init c) (distinct (f a b) (f b a)))"), "b, c");
        Check.due("by ways", start("(n a) (n (f a)) (<= (init (g ?x ?y)) (n ?x) (n ?y) (distinct ?y (f ?x)))"),
                "(g (f a) (f a)), (g (f a) a), (g a a)");
        Check.due("each counts", start("(n a) (n b) (n c) (<= (init ?x) (n ?x) (distinct ?x a) (distinct c ?x))"), "b");
    }

    /** Terms 3: "as long as anything new comes": to the end of the longest chain. */
    private static void asLongAsAnythingNewComes() {
        StringBuilder chain = new StringBuilder("(<= (init ?x) (r59 ?x)) ");
        for (int i = 59; i > 2; i--) {
            chain.append("(<= (r").append(i).append(" ?x) (r").append(i - 1).append(" ?x))");
        }
        Check.due("58 rules, each by the one behind it", start(chain + "(r2 a)"), "a");
        Check.due("a step at a time", start("(d 0)(d 1)(d 2)(d 3)(d 4)(d 5)(d 6)(d 7)(d 8)(d 9)"
                + "(s 0 1)(s 1 2)(s 2 3)(s 3 4)(s 4 5)(s 5 6)(s 6 7)(s 7 8)(s 8 9)"
                + "(<= (c ?x ?z) (c ?x ?w) (s ?w ?z) (d ?x)) (<= (c ?y 0) (c ?w 9) (s ?w ?y)) (c 1 5)"
                + "(<= (init ?x) (c 9 ?x))"), "0, 1, 2, 3, 4, 5, 6, 7, 8, 9");
        Check.due("a round ends", start("(e a b)(e b c)(e c a)(<= (r ?x ?y) (e ?x ?y))"
                + "(<= (r ?x ?z) (r ?x ?y) (e ?y ?z))(<= (init (p ?x ?y)) (r ?x ?y))"),
                "(p a a), (p a b), (p a c), (p b a), (p b b), (p b c), (p c a), (p c b), (p c c)");
    }

    /** Terms 3: "as long as anything new comes", of a state and of moves, too. */
    private static void asLongAsAnythingNewComesOfStates() {
        Game game = started("(role r) (init (e a b)) (init (e b c)) (init (e c d)) (<= (legal r ?x) (v ?x)) (v a) (v d)"
                + "(<= (edge ?x ?y) (true (e ?x ?y))) (<= (way ?x ?y) (edge ?x ?y)) (<= (way ?x ?z) (way ?x ?y) (edge ?y ?z))"
                + "(<= (from ?x) (does r ?x)) (<= (from ?y) (from ?x) (edge ?x ?y))"
                + "(<= (next (e ?x ?y)) (true (e ?x ?y)) (distinct ?y d)) (<= (next ?x) (from ?x)) (<= terminal (way a d))");
        Check.due("from the first to the last", game.it.terminal() ? 1 : 0, 1);
        Check.due("all from the move on", game.it.play(0), 6);
        Check.due("are told", game.state(6), "(e a b), (e b c), a, b, c, d");
        Check.due("no way leads there then", game.it.terminal() ? 1 : 0, 0);
        Check.due("all from the move on then", game.it.play(0), 5);
        Check.due("are told then", game.state(5), "(e a b), (e b c), a, b, c");
        Check.due("from the other", game.it.play(1), 3);
        Check.due("it is alone", game.state(3), "(e a b), (e b c), d");
    }

    /** Terms 3: "stratum by stratum": rules behind those that rest on themselves have all their conditions. */
    private static void behindWhatCameOfItself() {
        String chain = "(s a b) (s b c) (s c d) (r a) (<= (r ?y) (r ?x) (s ?x ?y)) (n b) (n d) (n z)";
        Check.due("the first condition counts", start(chain + "(<= (init ?x) (n ?x) (r ?x))"), "b, d");
        Check.due("the second one counts", start(chain + "(<= (init ?x) (r ?x) (n ?x))"), "b, d");
        Check.due("each of three", start(chain + "(m d) (<= (init ?x) (r ?x) (n ?x) (m ?x))"), "d");
        Check.due("each of three again", start(chain + "(m d) (<= (init ?x) (m ?x) (r ?x) (n ?x))"), "d");
        Check.due("what comes first isn't new", start(chain + "(<= (init (f ?x ?y)) (r ?x) (r ?y) (s ?x ?y) (n ?y))"),
                "(f a b), (f c d)");
    }

    /** Terms 3: "a relation's atoms all together ahead of any rule with a negative condition of it". */
    private static void relationsAheadOfNot() {
        Check.due("wherever the rules stand", start("(<= (init ?x) (n ?x) (not (r ?x))) (<= (r ?y) (r ?x) (s ?x ?y))"
                + "(r a) (s a b) (s b c) (n a) (n b) (n c) (n d)"), "d");
        Check.due("the other way round", start("(n d) (n c) (n b) (n a) (s b c) (s a b) (r a)"
                + "(<= (r ?y) (s ?x ?y) (r ?x)) (<= (init ?x) (not (r ?x)) (n ?x))"), "d");
        Check.due("in layers", start("(<= (init p4) p4) (<= p4 (not p3)) (<= p3 (not p2)) (<= p2 (not p1)) (<= p1 (not p0))"
                + "(<= (init p3) p3) (<= (init p2) p2) (<= (init p1) p1)"), "p1, p3");
        Check.due("ahead of what depends on it", start("(<= (init ?x) (q ?x)) (<= (q ?x) (n ?x) (not (m ?x)))"
                + "(<= (m ?x) (k ?x)) (<= (k ?x) (n ?x) (not (j ?x))) (n a) (n b) (j a)"), "a");
    }

    /** Terms 3: "(So an atom holds just if it has to.)" */
    private static void justIfItHasTo() {
        Check.due("not by itself", start("(<= p p) (<= (init a) p) (init z)"), "z");
        Check.due("not in a round", start("(<= p q) (<= q r) (<= r p) (<= (init a) p) (init z)"), "z");
        Check.due("so not holds", start("(<= p q) (<= q p) (<= (init a) (not p))"), "a");
        StringBuilder round = new StringBuilder();
        for (int i = 0; i < 58; i++) {
            round.append("(<= p").append(i).append(" p").append((i + 1) % 58).append(")");
        }
        Check.due("not in a round of 58", start(round + "(<= (init a) p0) (init z)"), "z");
        Check.due("in one of 58 that has to", start(round + "(<= (init a) p0) p1"), "a");
        Check.due("once it has to", start("(<= p q) (<= q p) q (<= (init a) p)"), "a");
    }

    /** 9 + 729 + 3 * 81 = 981 atoms, of 13 rules. */
    private static final String ATOMS_981 = set("n", 9) + "(<= (t ?x ?y ?z) (n ?x) (n ?y) (n ?z))"
            + "(<= (a ?x ?y) (n ?x) (n ?y))(<= (b ?x ?y) (n ?x) (n ?y))(<= (c ?x ?y) (n ?x) (n ?y))\n";

    /** Terms 3: "TOO GREAT is what has more than 1000 atoms that hold": 1000 are not. */
    private static void atomsThatHold() {
        Check.due("1000", Game.of(ATOMS_981 + set("k", 19)).it.start(), 0);
        Check.refuses("1001", TOO_GREAT, () -> Game.of(ATOMS_981 + set("k", 20)).it.start());
        Check.due("1000 with init", Game.of(ATOMS_981 + set("init", 19)).it.start(), 19);
        Check.refuses("1001 with init", TOO_GREAT, () -> Game.of(ATOMS_981 + set("init", 20)).it.start());
        Check.due("an atom by two rules counts once", Game.of(ATOMS_981 + set("k", 19) + set("k", 19)).it.start(), 0);
        Check.refuses("names alone count", TOO_GREAT, () -> Game.of(ATOMS_981 + set("k", 19) + "p").it.start());
        Check.refuses("roles count, the further ones, too", TOO_GREAT,
                () -> Game.of(ATOMS_981 + set("role", 20)).it.start());
        Check.due("1000 with roles", Game.of(ATOMS_981 + set("role", 19)).it.start(), 0);
        Check.refuses("what a negative condition lets come counts", TOO_GREAT,
                () -> Game.of(ATOMS_981 + set("k", 19) + "(<= p (not q))").it.start());
        Check.due("what it doesn't, not", Game.of(ATOMS_981 + set("k", 19) + "(<= p (not (k 0)))").it.start(), 0);
    }

    /** Terms 3: "true [...] counted". */
    private static void atomsOfTrue() {
        Game well = started(ATOMS_981 + set("k", 15) + "(init x) (init y)");
        Check.due("1000 with two of true", well.it.terminal() ? 1 : 0, 0);
        Game more = Game.of(ATOMS_981 + set("k", 16) + "(init x) (init y)");
        Check.due("1000 - 1 of no state", more.it.start(), 2);
        Check.refuses("1001 with two of true", TOO_GREAT, () -> more.it.terminal() ? 1 : 0);
        Check.due("the state stays", more.state(2), "x, y");
    }

    /** Terms 3: "and does [...] counted". */
    private static void atomsOfDoes() {
        String roles = "(role a) (role b) (legal a m) (legal b m)";
        Game well = started(ATOMS_981 + set("k", 13) + roles);
        Check.due("1000 with two of does", well.it.play(0), 0);
        Check.due("and explored", well.it.explore(), 1);
        Game more = started(ATOMS_981 + set("k", 14) + roles);
        Check.due("999 without", more.it.moves(1), 1);
        Check.refuses("1001 with two of does", TOO_GREAT, () -> more.it.play(0));
        Check.refuses("and explored, too", TOO_GREAT, () -> more.it.explore());
    }

    /** Terms 3: "all relations counted, whatever is asked for". */
    private static void atomsWhateverIsAskedFor() {
        Game game = Game.of(ATOMS_981 + set("k", 15) + "(role r) (init x) terminal (goal r 100)");
        Check.due("1000 of no state", game.it.start(), 1);
        Check.refuses("1001 when the end is asked for", TOO_GREAT, () -> game.it.terminal() ? 1 : 0);
        Check.refuses("1001 when a goal is asked for", TOO_GREAT, () -> game.it.goal(0));
        Check.refuses("1001 when moves are asked for", TOO_GREAT, () -> game.it.moves(0));
        Check.refuses("1001 when a move's text is asked for", TOO_GREAT, () -> game.it.sign(1, 0, 0));
        Check.refuses("1001 when a next state is asked for", TOO_GREAT, () -> game.it.play(0));
        Check.refuses("1001 when all states are asked for", TOO_GREAT, () -> game.it.explore());
        Game legal = Game.of(ATOMS_981 + set("k", 18) + "(legal nobody m) (goal nobody 100)");
        Check.refuses("moves and goals of no role count, too", TOO_GREAT, () -> legal.it.start());
    }

    private static final String SIGNS_48 = "(f abcdefghijklmnop abcdefghijklmnop 0123456789)";
    private static final String SIGNS_49 = "(f abcdefghijklmnop abcdefghijklmnop 01234567890)";
    private static final String DEEP_48 = "(f (g (h a b c d) (i (j (k (l m) n) o p) q)) yz)";
    private static final String DEEP_49 = "(f (g (h a b c d) (i (j (k (l m) n) o p) q)) xyz)";

    /** Terms 3: "or one with a term whose text (4) has more than 48 signs": blanks and parentheses are signs. */
    private static void signsOfATerm() {
        Check.due("48 signs", SIGNS_48.length(), 48);
        Check.due("49 signs", SIGNS_49.length(), 49);
        Check.due("48 deep signs", DEEP_48.length(), 48);
        Check.due("49 deep signs", DEEP_49.length(), 49);
        Check.due("a term of 48", start("(init " + SIGNS_48 + ")"), SIGNS_48);
        Check.due("a deep term of 48", start("(init " + DEEP_48 + ")"), DEEP_48);
        Check.refuses("a term of 49", TOO_GREAT, () -> Game.of("(init " + SIGNS_49 + ")").it.start());
        Check.due("blanks of the text don't count", start("(init ( f  abcdefghijklmnop\n abcdefghijklmnop;x\n 0123456789 ))"),
                SIGNS_48);
    }

    /** Terms 3: "an atom [...] with a term": of any relation, in any place, made by any rule. */
    private static void signsOfAnyTerm() {
        String[] sheets = {"(init TERM) (init z)", "(p TERM) (init z)", "(p a a a TERM) (init z)", "(role TERM) (init z)",
            "(legal a TERM) (init z)", "(legal TERM a) (init z)", "(goal a TERM) (init z)", "(next TERM) (init z)",
            "(<= (p TERM) q) q (init z)", "(<= (p TERM) (not q)) (init z)", "(<= (p TERM)) (init z)"};
        for (String sheet : sheets) {
            Check.due("48 signs in " + sheet, Game.of(sheet.replace("TERM", SIGNS_48)).it.start(),
                    sheet.startsWith("(init") ? 2 : 1);
            Check.refuses("49 signs in " + sheet, TOO_GREAT, () -> Game.of(sheet.replace("TERM", SIGNS_49)).it.start());
            Check.refuses("deep ones in " + sheet, TOO_GREAT, () -> Game.of(sheet.replace("TERM", DEEP_49)).it.start());
        }
    }

    /** Terms 3: "a term whose text has more than 48 signs", as rules put it together. */
    private static void signsOfTermsThatGrow() {
        // (fgh (fgh .. ab)) has 2 + 6 n signs: 44 of n = 7
        Game grow = started("(role r) (legal r m) (init ab) (<= (next (fgh ?x)) (true ?x))");
        for (int i = 0; i < 7; i++) {
            Check.due("play() " + i, grow.it.play(0), 1);
        }
        Check.due("44 signs", grow.text(0, 0).length(), 44);
        Check.refuses("50 would come, and hold without moves, too", TOO_GREAT, () -> grow.it.moves(0));
        Check.refuses("so it can't be played", TOO_GREAT, () -> grow.it.play(0));
        Check.due("the state stays", grow.text(0, 0).length(), 44);
        Check.refuses("nor explored", TOO_GREAT, () -> grow.it.explore());
        // 1 + 1 + 1 + 44 + 1 = 48 of (x TERM)
        String sheet = "(p (g 123456789 123456789 123456789 abcdefghij)) (<= (init (NAME ?x)) (p ?x))";
        Check.due("a part of 44", "(g 123456789 123456789 123456789 abcdefghij)".length(), 44);
        Check.due("a whole of 48", Game.of(sheet.replace("NAME", "x")).it.start(), 1);
        Check.refuses("a whole of 49", TOO_GREAT, () -> Game.of(sheet.replace("NAME", "xy")).it.start());
    }

    /** Terms 3: "atoms that hold": what stands in the sheet, but in no atom that holds, may be as long as it likes. */
    private static void signsOfWhatDoesNotHold() {
        Check.due("in a negative condition", start("(<= (init a) (not (p " + SIGNS_49 + ")))"), "a");
        Check.due("in distinct", start("(<= (init a) (distinct a " + SIGNS_49 + "))"), "a");
        Check.due("in a positive condition", start("(p a) (<= (init a) (p " + SIGNS_49 + ")) (init z)"), "z");
        Check.due("in a head that doesn't hold", start("(<= (p " + SIGNS_49 + ") q) (init z)"), "z");
        Check.due("in a head whose terms aren't distinct", start("(<= (p " + SIGNS_49 + ") (distinct a a)) (init z)"), "z");
    }

    /** 100 atoms of t, 30 of e; with them 2 + 10 + 3 rules. */
    private static final String HUNDRED = set("n", 10) + set("m", 3) + "(<= (t ?x ?y) (n ?x) (n ?y))"
            + "(<= (e ?x ?y) (n ?x) (m ?y))\n";

    /** Terms 3: "or a rule whose ROOM is above 300000: the product, over its positive conditions, of how many atoms". */
    private static void roomOfARule() {
        String rule = "(<= v (t ?a ?b) (t ?c ?d) (e ?e ?f)) (init z)";
        Check.due("300000", start(HUNDRED + rule), "z");
        Check.refuses("310000", TOO_GREAT, () -> Game.of(HUNDRED + rule + "(e a a)").it.start());
        Check.refuses("303000", TOO_GREAT, () -> Game.of(HUNDRED + rule + "(t a a)").it.start());
        Check.refuses("in whatever order", TOO_GREAT,
                () -> Game.of(HUNDRED + "(e a a) (<= v (e ?e ?f) (t ?a ?b) (t ?c ?d))").it.start());
        Check.refuses("whatever the rule brings", TOO_GREAT,
                () -> Game.of(HUNDRED + "(e a a) (<= v (t z z) (t ?c ?d) (e z y))").it.start());
        Check.refuses("whatever else it asks", TOO_GREAT, () -> Game.of(HUNDRED
                + "(e a a) (<= v (t ?a ?b) (t ?c ?d) (e ?e ?f) (distinct a a) (not (n 0)))").it.start());
        Check.due("two rules have a room each", start(HUNDRED + rule + "(<= w (t ?a ?b) (t ?c ?d) (e ?e ?f))"), "z");
    }

    /** Terms 3: "above 300000": 300001 is, as 491 * 47 * 13. */
    private static void roomOfOneMore() {
        // 49 * 10 + 1 of t; 25 + 22 of h; 10 + 3 of m
        String text = set("e", 25) + set("n", 10) + "(<= (h (g ?x)) (e ?x)) (<= (h (f ?x)) (e ?x) (distinct ?x 0)"
                + "(distinct ?x 1) (distinct ?x 2)) (<= (k ?x) (h ?x)) (k 0) (k 1) (<= (t ?x ?y) (k ?x) (n ?y))"
                + "(<= (m ?x) (n ?x)) (m a) (m b) (m c) (<= v (t ?x ?y) (h ?z) (m ?w)) (init z)";
        Check.due("490 * 47 * 13", start(text), "z");
        Check.refuses("491 * 47 * 13", TOO_GREAT, () -> Game.of(text + "(t a a)").it.start());
        Check.due("491 * 47 * 12", start(text.replace("(m c)", "") + "(t a a)"), "z");
    }

    /** Terms 3: "over its positive conditions": each counts, though its relation comes again. */
    private static void roomOfLikeConditions() {
        String text = set("n", 8) + "(init z)";
        String six = "(n ?a) (n ?b) (n ?c) (n ?d) (n ?e) (n ?f)";
        Check.due("8 to the sixth", start(text + "(<= v " + six + ")"), "z");
        Check.refuses("8 to the seventh", TOO_GREAT, () -> Game.of(text + "(<= v " + six + " (n ?g))").it.start());
        Check.refuses("of the very same condition", TOO_GREAT, () -> Game.of(text + "(<= v " + six + " (n ?a))").it.start());
        Check.refuses("of conditions without variables", TOO_GREAT,
                () -> Game.of(text + "(<= v (n 0) (n 0) (n 0) (n 0) (n 0) (n 0) (n 0))").it.start());
    }

    /** Terms 3: "its positive conditions": negative ones and distinct have no part in the room. */
    private static void roomOfWhatDoesNotCount() {
        Check.due("not and distinct", start(HUNDRED + "(<= v (t ?a ?b) (t ?c ?d) (e ?e ?f) (not (t ?a ?d)) (not (t z z))"
                + "(distinct ?a ?b)) (init z)"), "z");
        Check.due("these alone", start(HUNDRED + "(<= v (not (t a a)) (not (t b b)) (not (t c c)) (not (t d d)))"
                + "(<= (init z) v)"), "z");
    }

    /** Terms 3: "the product [...] of how many atoms of the relation hold": of none it is 0. */
    private static void roomOfNoAtoms() {
        String much = "(t ?a ?b) (t ?c ?d) (t ?e ?f)";
        Check.due("the last has none", start(HUNDRED + "(<= v " + much + " none) (init z)"), "z");
        Check.due("the first has none", start(HUNDRED + "(<= v none " + much + ") (init z)"), "z");
        Check.refuses("if it has one", TOO_GREAT, () -> Game.of(HUNDRED + "(<= v none " + much + ") none").it.start());
        Game game = Game.of(HUNDRED + "(role r) (legal r m) (init z) (<= v (true ?x) " + much + ")");
        Check.due("of no state nothing is true", game.it.start(), 1);
        Check.refuses("but of the state", TOO_GREAT, () -> game.it.moves(0));
    }

    /** Terms 3: "how many atoms of the relation hold": true's are the state's terms. */
    private static void roomOfTrue() {
        String text = set("n", 10) + set("m", 6) + set("a", 5) + "(<= (init (f ?x ?y)) (n ?x) (m ?y))"
                + "(<= (t ?x ?y) (n ?x) (n ?y)) (<= (e ?x ?y) (n ?x) (a ?y)) (<= v (true ?x) (t ?a ?b) (e ?c ?d)) (role r)";
        Game well = started(text);
        Check.due("60 * 100 * 50", well.it.moves(0), 0);
        Game more = Game.of(text + "(e z z)");
        Check.due("of no state it is 0", more.it.start(), 60);
        Check.refuses("60 * 100 * 51", TOO_GREAT, () -> more.it.moves(0));
    }

    /** Terms 3: "how many atoms of the relation hold": does' are the moves. */
    private static void roomOfDoes() {
        String text = HUNDRED + "(role a) (role b) (role c) (legal a m) (legal b m) (legal c m) (<= (t3 ?x) (n ?x))"
                + "(<= v (does ?r ?m) (t ?a ?b) (t ?c ?d) (n ?e)) (init z)";
        Game well = started(text);
        Check.due("without moves it is 0", well.it.moves(0), 1);
        Check.due("3 * 100 * 100 * 10", well.it.play(0), 0);
        Game more = started(text + "(n2 z) (t z z)");
        Check.due("without moves it is 0 again", more.it.moves(0), 1);
        Check.refuses("3 * 101 * 101 * 10", TOO_GREAT, () -> more.it.play(0));
        Check.due("the state stays", more.state(1), "z");
    }

    /** Terms 3: "above 300000", also where the product is more than an int or a long tells. */
    private static void roomThatOverflows() {
        // 16 to the 8th is 0 as an int, 256 to the 8th as a long
        String sixteen = set("n", 16);
        Check.refuses("16 to the eighth", TOO_GREAT, () -> Game.of(sixteen
                + "(<= v (n ?a) (n ?b) (n ?c) (n ?d) (n ?e) (n ?f) (n ?g) (n ?h))").it.start());
        String t = "(t ?a ?b)";
        Check.refuses("256 to the fourth", TOO_GREAT, () -> Game.of(sixteen + "(<= (t ?x ?y) (n ?x) (n ?y))"
                + "(<= v " + t.repeat(4) + ")").it.start());
        Check.refuses("256 to the eighth", TOO_GREAT, () -> Game.of(sixteen + "(<= (t ?x ?y) (n ?x) (n ?y))"
                + "(<= v " + t.repeat(8) + ")").it.start());
    }

    /** Terms 4: "ROLES are the terms of the rules whose head is of role, in the order of the sheet (the first four that are unlike". */
    private static void rolesOfTheSheet() {
        Game game = Game.of("(role z) (init (role q)) (role z) (<= (role (f b))) (role a) (role (f b)) (role _) (role y) (role x)");
        Check.due("the first four that are unlike", game.it.sheet(1), 4);
        Check.due("in the sheet's order", game.text(5, 0) + " " + game.text(5, 1) + " " + game.text(5, 2) + " "
                + game.text(5, 3), "z (f b) a _");
        Check.due("(f b) and f are unlike", Game.of("(role (f b)) (role f) (role (f a))").it.sheet(1), 3);
    }

    /** Terms 4: "further ones have no part in moves and goals)". */
    private static void furtherRoles() {
        Game game = started("(role a) (role b) (role c) (role d) (role e) (<= (legal ?r m) (role ?r)) (legal e n)"
                + "(<= (goal ?r 50) (role ?r)) (<= (next (did ?r ?m)) (does ?r ?m)) (<= (init (is ?r)) (role ?r))");
        Check.due("though role holds of them", game.it.start(), 5);
        Check.refuses("no moves", NO_SUCH, () -> game.it.moves(4));
        Check.refuses("no goals", NO_SUCH, () -> game.it.goal(4));
        Check.refuses("no text", NO_SUCH, () -> game.it.sign(5, 4, 0));
        Check.refuses("no second joint move", NO_SUCH, () -> game.it.play(1));
        Check.due("one joint move", game.it.play(0), 4);
        Check.due("of four", game.state(4), "(did a m), (did b m), (did c m), (did d m)");
        Game few = started("(role a) (role b) (role c) (role d) (role e) (legal a m) (legal b m) (legal c m) (legal d m)");
        Check.due("the fifth needs no move", few.it.play(0), 0);
    }

    /** Terms 4: "The INITIAL state: all t with init(t), of no state and no moves." */
    private static void initialState() {
        Check.due("none", Game.of("p").it.start(), 0);
        Check.due("each once", start("(init a) (<= (init a)) (p a) (<= (init ?x) (p ?x))"), "a");
        Game game = started("(role r) (init a) (legal r m) (next b) (<= (next c) (true b))");
        game.it.play(0);
        Check.due("play()", game.it.play(0), 2);
        Check.due("the state before has no part in it", game.it.start(), 1);
        Check.due("nor have the moves", game.state(1), "a");
    }

    /** Terms 4: "the MOVES of a role r are all m with legal(r, m)". */
    private static void movesOfARole() {
        Game game = started("(role a) (role (f b)) (role c) (init s) (legal a m) (legal a m) (<= (legal a m)) (legal a (f b))"
                + "(legal (f b) a) (legal b z) (legal f z) (legal (f c) z) (<= (legal a ?x) (true ?x)) (legal a a)");
        Check.due("each once", game.moves(0), "(f b), a, m, s");
        Check.due("of the very role", game.moves(1), "a");
        Check.due("none", game.it.moves(2), 0);
        Check.due("of a terminal state, too", started("(role a) (legal a m) terminal").moves(0), "m");
    }

    /** Terms 4: "it is TERMINAL if terminal holds". */
    private static void terminalState() {
        Check.due("always", started("terminal").it.terminal() ? 1 : 0, 1);
        Check.due("never", started("(init terminal) (p terminal)").it.terminal() ? 1 : 0, 0);
        Game game = started("(role r) (init a) (legal r m) (next b) (<= terminal (true b))");
        Check.due("not of the first state", game.it.terminal() ? 1 : 0, 0);
        game.it.play(0);
        Check.due("of the second", game.it.terminal() ? 1 : 0, 1);
        game.it.start();
        Check.due("not of the first again", game.it.terminal() ? 1 : 0, 0);
    }

    private static void goal(String goals, int due) {
        Check.due("the goal by " + goals, started("(role r) " + goals).it.goal(0), due);
    }

    /** Terms 4: "the GOALS of r are all n, names of one to three digits, up to 100 as numbers". */
    private static void goalNumbers() {
        String[] names = {"0", "00", "000", "1", "9", "10", "099", "99", "100", "007", "07"};
        int[] numbers = {0, 0, 0, 1, 9, 10, 99, 99, 100, 7, 7};
        for (int i = 0; i < names.length; i++) {
            goal("(goal r " + names[i] + ")", numbers[i]);
            goal("(goal r " + names[i] + ") (goal r 101) (goal r x)", numbers[i]);
            goal("(goal r (f 1)) (goal r 101) (goal r " + names[i] + ")", numbers[i]);
            goal("(goal r 1000) (goal r " + names[i] + ") (goal r x)", numbers[i]);
        }
        for (String none : new String[] {"101", "102", "110", "200", "999", "0000", "0001", "0100", "1000", "4294967296", "a",
            "1a", "a1", "_1", "1_", "_", "x10", "(1 1)", "(f 5)", "(100 0)", "2147483648"}) {
            goal("(goal r " + none + ")", -1);
        }
        goal("", -1);
        goal("(goal s 50) (goal (r r) 50)", -1);
    }

    /** Terms 4: "(as numbers, each once)". */
    private static void goalsOnce() {
        goal("(goal r 7) (goal r 07) (goal r 007)", 7);
        goal("(goal r 0) (goal r 00) (goal r 000)", 0);
        goal("(goal r 7) (goal r 07) (goal r 70)", -2);
        goal("(goal r 70) (goal r 7) (goal r 07)", -2);
        goal("(goal r 1) (goal r 2) (goal r 1)", -2);
        goal("(goal r 1) (goal r 2) (goal r 3) (goal r 2)", -2);
        goal("(goal r 0) (goal r 1)", -2);
        goal("(goal r 100) (goal r 0)", -2);
    }

    /** Terms 4: "With a move for each role done, too, the NEXT state: all t with next(t)." */
    private static void nextState() {
        Game game = started("(role a) (role b) (init i) (legal a m) (legal b n) (<= (next both) (does a m) (does b n))"
                + "(<= (next (from ?x)) (true ?x)) (next always) (<= (next always) (true i)) (<= (next never) (does a n))");
        Check.due("play()", game.it.play(0), 3);
        Check.due("all, each once", game.state(3), "(from i), always, both");
        Game none = started("(role a) (init i) (legal a m)");
        Check.due("none", none.it.play(0), 0);
    }

    private static final String SIXTY = set("n", 10) + set("m", 6);

    /** Terms 4: "A state of more than 60 terms is too great": the initial one. */
    private static void termsOfAState() {
        String text = SIXTY + "(<= (init (f ?x ?y)) (n ?x) (m ?y)) (role r) (legal r m)";
        Game well = Game.of(text);
        Check.due("60", well.it.start(), 60);
        Check.due("the last", well.text(0, 59), "(f 9 5)");
        Check.refuses("there is no 61st", NO_SUCH, () -> well.it.sign(0, 60, 0));
        Check.due("explored", well.it.explore(), 2);
        Game more = Game.of(text + "(init z)");
        Check.refuses("61", TOO_GREAT, () -> more.it.start());
        Check.refuses("there is no state", IllegalStateException.class, () -> more.it.moves(0));
        Check.refuses("61 explored", TOO_GREAT, () -> more.it.explore());
        Check.due("60 and one again", Game.of(text + "(init (f 0 0))").it.start(), 60);
    }

    /** Terms 4: "A state of more than 60 terms is too great": a next one; without moves there is none. */
    private static void termsOfANextState() {
        String text = SIXTY + "(<= (next (f ?x ?y)) (n ?x) (m ?y)) (role r) (legal r m) (init a)";
        Game well = started(text);
        Check.due("60", well.it.play(0), 60);
        Check.due("60 again", well.it.play(0), 60);
        Game more = started(text + "(next z)");
        Check.due("61 that would come are not there yet", more.it.moves(0), 1);
        Check.refuses("61", TOO_GREAT, () -> more.it.play(0));
        Check.due("the state stays", more.state(1), "a");
        Check.refuses("61 explored", TOO_GREAT, () -> more.it.explore());
        Game end = Game.of(text + "(next z) terminal");
        Check.due("of a terminal state no next ones are found", end.it.explore(), 1);
    }

    /** Terms 4: "Terms are in the order of their texts, sign by sign". */
    private static void orderOfSigns() {
        String sorted = "(a a), (b a), 0, 9, _, a, z";
        Check.due("( is ahead of digits, these of _, that of letters",
                start("(init z) (init a) (init _) (init 9) (init 0) (init (b a)) (init (a a))"), sorted);
        Check.due("by the first sign that is unlike", start("(init ba) (init ab) (init aa) (init b0) (init a_) (init a9)"),
                "a9, a_, aa, ab, b0, ba");
        Check.due("inside wholes", start("(init (f b a)) (init (f a b)) (init (f (f a) z)) (init (f 0 z)) (init (f _ a))"),
                "(f (f a) z), (f 0 z), (f _ a), (f a b), (f b a)");
        Check.due("numbers are texts", start("(init 10) (init 9) (init 100) (init 1)"), "1, 10, 100, 9");
    }

    /** Terms 4: "(a text that ends goes first)": and a blank is ahead of ), both ahead of all signs of names. */
    private static void orderOfEnds() {
        Check.due("names", start("(init aaa) (init a) (init aa) (init aab)"), "a, aa, aaa, aab");
        Check.due("names of wholes", start("(init (ab a)) (init (a z)) (init (a0 a))"), "(a z), (a0 a), (ab a)");
        Check.due("more terms go first", start("(init (a b)) (init (a b a)) (init (a b a a)) (init (a b a a a))"),
                "(a b a a a), (a b a a), (a b a), (a b)");
        Check.due("ends inside", start("(init (f (g a) a)) (init (f (g a b) a)) (init (f (ga a) a)) (init (f (g aa) a))"),
                "(f (g a b) a), (f (g a) a), (f (g aa) a), (f (ga a) a)");
        Check.due("a part that ends", start("(init (f a z)) (init (f aa a)) (init (f a)) (init (f aa))"),
                "(f a z), (f a), (f aa a), (f aa)");
    }

    /** Terms 4: "A state's terms, and moves, are in that order." */
    private static void orderOfMoves() {
        Game game = started("(role r) (role q) (legal r b) (legal q b) (legal r (b a)) (legal q (b a a)) (legal r a) (legal q a_)"
                + "(legal q a0) (legal q (b a)) (<= (next (did ?r ?m)) (does ?r ?m))");
        Check.due("the first role's", game.moves(0), "(b a), a, b");
        Check.due("the second role's", game.moves(1), "(b a a), (b a), a0, a_, b");
        game.it.play(14);
        Check.due("the state's", game.state(2), "(did q b), (did r b)");
    }

    /** Terms 4: "numbered from 0, in the order of the first role's moves, of those alike in it of the second role's, and so on". */
    private static void jointMovesInOrder() {
        Game game = Game.of("(role c) (role b) (role a) (legal c 0) (legal c 1) (legal b 0) (legal b 1) (legal b 2)"
                + "(legal a 0) (legal a 1) (legal a 2) (legal a 3) (<= (next (j ?x ?y ?z)) (does c ?x) (does b ?y) (does a ?z))");
        for (int j = 0; j < 24; j++) {
            game.it.start();
            Check.due("play(" + j + ")", game.it.play(j), 1);
            Check.due("the joint move " + j, game.text(0, 0), "(j " + j / 12 + " " + j / 4 % 3 + " " + j % 4 + ")");
        }
        Check.refuses("there is no 24th", NO_SUCH, () -> game.it.play(24));
        Game stuck = started("(role a) (role b) (legal b m)");
        Check.refuses("none where a role has no move", NO_SUCH, () -> stuck.it.play(0));
    }

    /** Terms 4: "without roles there are none". */
    private static void jointMovesWithoutRoles() {
        Game game = started("(init i) (next n) (legal a m)");
        Check.refuses("play(0)", NO_SUCH, () -> game.it.play(0));
        Check.refuses("play(-1)", NO_SUCH, () -> game.it.play(-1));
        Check.due("so no other state comes", game.it.explore(), 1);
        Check.due("state(0, 2)", game.it.state(0, 2), 0);
        Check.refuses("next(0, 0)", NO_SUCH, () -> game.it.next(0, 0));
    }

    /** Terms 4: "(They may be more than an int tells: then each int from 0 on is one.)" */
    private static void jointMovesBeyondInts() {
        String roles = "(role a)(role b)(role c)(role d)(<= (next (did ?r ?m)) (does ?r ?m))";
        // 256 * 256 * 256 * 128 = 2147483648
        Game all = started(roles + set("n", 16) + set("h", 8) + "(big a)(big b)(big c)"
                + "(<= (legal ?r (m ?x ?y)) (big ?r) (n ?x) (n ?y))(<= (legal d (m ?x ?y)) (h ?x) (n ?y))");
        Check.due("play() of the greatest int, which is the last", all.it.play(Integer.MAX_VALUE), 4);
        Check.due("the last moves", all.state(4), "(did a (m 9 9)), (did b (m 9 9)), (did c (m 9 9)), (did d (m 7 9))");
        Check.due("play(0)", all.it.play(0), 4);
        Check.due("the first moves", all.state(4), "(did a (m 0 0)), (did b (m 0 0)), (did c (m 0 0)), (did d (m 0 0))");
        Check.due("play(1 << 30)", all.it.play(1 << 30), 4);
        // the 128th of the first role's moves: 16 for each of 0, 1, 10, 11 .. 15
        Check.due("the moves by it", all.state(4), "(did a (m 2 0)), (did b (m 0 0)), (did c (m 0 0)), (did d (m 0 0))");
        Check.refuses("play(-1)", NO_SUCH, () -> all.it.play(-1));
        Check.refuses("play() of the least int", NO_SUCH, () -> all.it.play(Integer.MIN_VALUE));
        Check.refuses("too many to explore", TOO_GREAT, () -> all.it.explore());
        // 240 * 240 * 240 * 150 = 2073600000
        Game less = started(roles + set("n", 16) + set("h", 15) + set("k", 10) + "(big a)(big b)(big c)"
                + "(<= (legal ?r (m ?x ?y)) (big ?r) (n ?x) (h ?y))(<= (legal d (m ?x ?y)) (k ?x) (h ?y))");
        Check.refuses("behind the last", NO_SUCH, () -> less.it.play(2073600000));
        Check.refuses("play() of the greatest int", NO_SUCH, () -> less.it.play(Integer.MAX_VALUE));
        Check.due("the last", less.it.play(2073599999), 4);
    }
}

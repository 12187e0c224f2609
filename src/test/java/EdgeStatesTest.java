/**
 * The edges of terms 5 (all states, their defects and values), of promises 13 to 18, and of the
 * 512 calls of an object. Above each test stands the sentence of the document that it belongs to.
 */
final class EdgeStatesTest {
    private static final Class<IllegalStateException> NOT_KNOWN = IllegalStateException.class;
    private static final Class<IndexOutOfBoundsException> NO_SUCH = IndexOutOfBoundsException.class;
    private static final Class<IllegalArgumentException> NO_WHAT = IllegalArgumentException.class;
    private static final Class<UnsupportedOperationException> TOO_GREAT = UnsupportedOperationException.class;

    /** From a place p role x may go to q by (x p q), role y by (y p q); (l p n m) tells the goals. */
    private static final String WALK = "(role x)(role y)(init(at a))(<=(mx ?p)(x ?p ?q))(<=(my ?p)(y ?p ?q))"
            + "(<=(legal x ?q)(true(at ?p))(x ?p ?q))(<=(legal y ?q)(true(at ?p))(y ?p ?q))"
            + "(<=(legal x wait)(true(at ?p))(not(mx ?p)))(<=(legal y wait)(true(at ?p))(not(my ?p)))"
            + "(<=(next(at ?q))(does ?r ?q)(distinct ?q wait))"
            + "(<=terminal(true(at ?p))(not(mx ?p))(not(my ?p)))"
            + "(<=(goal x ?n)(true(at ?p))(l ?p ?n ?m))(<=(goal y ?m)(true(at ?p))(l ?p ?n ?m))\n";

    private EdgeStatesTest() {
    }

    public static void main(String[] args) {
        fromTheInitialState();
        inTheOrderOfNumbers();
        onlyOfThoseThatArentTerminal();
        eachThatIsntKnown();
        statesAtMost();
        jointMovesAtMost();
        jointMovesOfATerminalOne();
        jointMovesOfALaterOne();
        workAtMost();
        workOfTerminalOnes();
        notTwoRoles();
        aRoleHasNoMove();
        bothHaveMoreThanOne();
        noGoalOrSeveral();
        goalsDontMakeUp100();
        inTheOrderOfStates();
        comesToItAgain();
        leastThatComesAgain();
        comesAgainLast();
        valueOfATerminalOne();
        valueOfTheFirstRole();
        valueOfTheSecondRole();
        valueOfTheOneNextOne();
        bestIsTheFirst();
        exploreCounts();
        exploreTooGreat();
        exploreOnce();
        exploreForgets();
        exploreBesideTheState();
        exploreByOneMadeMove();
        defectTells();
        defectRefused();
        stateTells();
        stateRefused();
        nextRefused();
        valueRefused();
        bestOfATerminalOne();
        calls512();
        Check.finish("EdgeStatesTest");
    }

    private static Game explored(String text) {
        Game game = Game.of(text);
        game.it.explore();
        return game;
    }

    private static String set(String name, int many) {
        StringBuilder text = new StringBuilder();
        for (int i = 0; i < many; i++) {
            text.append("(").append(name).append(' ').append(i).append(")");
        }
        return text.toString();
    }

    private static void defect(String text, int kind, int state) {
        Game game = explored(text);
        Check.due("the defect of " + text, game.it.defect(0) + " of " + game.it.defect(1), kind + " of " + state);
        Check.due("whether values are told of " + text, Check.answer(() -> game.it.value(0)).equals("IllegalStateException")
                ? 1 : 0, kind == 0 ? 0 : 1);
        Check.due("whether best moves are told of " + text, Check.answer(() -> game.it.best(0))
                .equals("IllegalStateException") ? 1 : 0, kind == 0 ? 0 : 1);
    }

    private static String nexts(Game game, int n) {
        StringBuilder told = new StringBuilder();
        for (int j = 0; j < game.it.state(n, 2); j++) {
            told.append(j == 0 ? "" : " ").append(game.it.next(n, j));
        }
        return told.toString();
    }

    private static String values(Game game) {
        StringBuilder told = new StringBuilder();
        int many = game.it.explore();
        for (int n = 0; n < many; n++) {
            told.append(n == 0 ? "" : " ").append(game.it.value(n)).append(":").append(game.it.best(n));
        }
        return told.toString();
    }

    /** Terms 5: "From the initial state (0) on": whatever the state is, and if it has no terms. */
    private static void fromTheInitialState() {
        Game game = Game.of(WALK + "(x a b)(x a c)(y b d)(l d 1 99)(l c 1 99)");
        game.it.start();
        game.it.play(0);
        Check.due("explore()", game.it.explore(), 4);
        Check.due("state 0 is the initial one", nexts(game, 0), "1 2");
        Check.due("an empty one", explored("(role r)(legal r m)(<=(next a)(does r m))(<=terminal(true a))").it.state(0, 0), 0);
        Check.due("the only one", Game.of("terminal").it.explore(), 1);
    }

    /** Terms 5: "states are taken in the order of their numbers". */
    private static void inTheOrderOfNumbers() {
        Game game = explored(WALK + "(x a b)(x a c)(y b d)(y b e)(y c f)(x d g)(l e 1 99)(l f 1 99)(l g 1 99)");
        // 0 a, 1 b, 2 c, 3 d, 4 e, 5 f, 6 g
        String[] due = {"1 2", "3 4", "5", "6", "", "", ""};
        Check.due("explore()", game.it.explore(), due.length);
        for (int n = 0; n < due.length; n++) {
            Check.due("those next to " + n, nexts(game, n), due[n]);
        }
    }

    /** Terms 5: "of one that isn't terminal the next states by all its joint moves, in order". */
    private static void onlyOfThoseThatArentTerminal() {
        String text = "(role r)(role s)(legal r 0)(legal r 1)(legal s 0)(legal s 1)(legal s 2)"
                + "(<=(next(d ?x ?y))(does r ?x)(does s ?y))";
        Game one = explored(text + "terminal");
        Check.due("a terminal one has none", one.it.explore(), 1);
        Check.refuses("though it can be played on", NO_SUCH, () -> one.it.next(0, 0));
        one.it.start();
        Check.due("as play() does", one.it.play(5), 1);
        Game all = explored(text + "(<=terminal(true(d ?x ?y)))");
        Check.due("all six, in order", nexts(all, 0), "1 2 3 4 5 6");
        Check.due("and none behind them", all.it.explore(), 7);
    }

    /** Terms 5: "each that isn't known gets the next number". */
    private static void eachThatIsntKnown() {
        Game game = explored("(role r)(init(s 0))(<=(legal r ?x)(k ?x))" + set("k", 4)
                + "(<=(next(s 0))(does r 0))(<=(next(s 1))(does r 1))(<=(next(s 1))(does r 2))(<=(next(s 2))(does r 3))");
        Check.due("three in all", game.it.explore(), 3);
        Check.due("known ones keep theirs", nexts(game, 0) + ", " + nexts(game, 1) + ", " + nexts(game, 2),
                "0 1 1 2, 0 1 1 2, 0 1 1 2");
        Game like = explored("(role r)(init(f a))(init b)(legal r 0)(legal r 1)(legal r 2)(<=(next b)(does r 0))"
                + "(<=(next(f a))(does r 0))(<=(next(f b))(does r 1))(<=(next b)(does r 1))(<=(next(f a))(does r 2))");
        Check.due("states are alike if all terms are", nexts(like, 0), "0 1 2");
    }

    /** 1 + 13 + 13 * 22 = 300 states. */
    private static final String STATES_300 = "(role r)(init i)" + set("n", 13) + set("k", 22)
            + "(<=(legal r ?x)(true i)(n ?x))(<=(legal r ?x)(true(a ?y))(k ?x))(<=(next(a ?x))(true i)(does r ?x))"
            + "(<=(next(b ?x ?y))(true(a ?x))(does r ?y))(<=terminal(true(b ?x ?y)))\n";

    /** Terms 5: "More than 300 states [...] is too great." */
    private static void statesAtMost() {
        Game game = Game.of(STATES_300);
        Check.due("300", game.it.explore(), 300);
        Check.due("the last", game.it.next(13, 21), 299);
        Check.refuses("there is no 300th", NO_SUCH, () -> game.it.state(300, 0));
        Game more = Game.of(STATES_300 + "(<=(legal r z)(true(a 9)))");
        Check.refuses("301", TOO_GREAT, () -> more.it.explore());
        Check.refuses("none are known", NOT_KNOWN, () -> more.it.state(0, 0));
        Check.refuses("301 again", TOO_GREAT, () -> more.it.explore());
        Check.due("a move more to one that is known", Game.of(STATES_300.replace("(does r ?y))", "(does r ?y)(k ?y))")
                + "(<=(legal r z)(true(a 9)))(<=(next i)(does r z))").it.explore(), 300);
        Check.due("301 that are one less", Game.of(STATES_300.replace("(n 12)", "") + "(<=(legal r z)(true(a 9)))")
                .it.explore(), 278);
    }

    private static String movers(int... many) {
        StringBuilder text = new StringBuilder("(init i)");
        for (int r = 0; r < many.length; r++) {
            char name = (char) ('a' + r);
            text.append("(role ").append(name).append(")");
            if (many[r] > 8) {
                text.append(set("n", many[r])).append("(<=(legal ").append(name).append(" ?x)(n ?x))");
            } else {
                text.append(set("legal " + name, many[r]));
            }
        }
        return text.toString();
    }

    /** Terms 5: "more than 40 joint moves of one that isn't terminal". */
    private static void jointMovesAtMost() {
        int[][] well = {{40}, {1, 40}, {40, 1}, {8, 5}, {5, 2, 4}, {2, 2, 2, 5}, {41, 0}, {0, 41}, {13, 3}, {1, 1, 1, 1}};
        for (int[] many : well) {
            int product = 1;
            for (int own : many) {
                product *= own;
            }
            Game game = Game.of(movers(many));
            // state 1 is the empty one that comes next
            Check.due(product + " joint moves", game.it.explore(), product == 0 ? 1 : 2);
            Check.due("are told", game.it.state(0, 2), product);
            int last = product - 1;
            int behind = product;
            Check.due("the last", Check.answer(() -> game.it.next(0, last)),
                    product == 0 ? "IndexOutOfBoundsException" : "1");
            Check.refuses("and no more", NO_SUCH, () -> game.it.next(0, behind));
        }
        int[][] more = {{41}, {1, 41}, {41, 1}, {7, 6}, {21, 2}, {3, 2, 7}, {3, 7, 1, 2}, {8, 8, 8, 8}};
        for (int[] many : more) {
            Game game = Game.of(movers(many));
            Check.refuses("more than 40 joint moves", TOO_GREAT, () -> game.it.explore());
            Check.refuses("nothing is known", NOT_KNOWN, () -> game.it.state(0, 2));
            Check.due("though it is played", game.it.start() + game.it.play(40), 1);
        }
    }

    /** Terms 5: "of one that isn't terminal": a terminal one may have more. */
    private static void jointMovesOfATerminalOne() {
        Game game = Game.of(movers(41) + "terminal");
        Check.due("41 of a terminal one", game.it.explore(), 1);
        Check.due("of which none is told", game.it.state(0, 2), 0);
        Check.due("a thousand", Game.of(movers(8, 8, 8, 8) + "terminal").it.explore(), 1);
    }

    /** Terms 5: "more than 40 joint moves of one": of any one that is found. */
    private static void jointMovesOfALaterOne() {
        String text = "(role r)(init(c 0))(s 0 1)(s 1 2)(<=(next(c ?y))(true(c ?x))(s ?x ?y))(<=(legal r m)(true ?x))"
                + "(<=(legal r ?x)(true(c 2))(n ?x))(<=terminal(true(c ?x))(not(more ?x)))(more 0)(more 1)";
        Check.due("40 of the third", Game.of(text + "(more 2)" + set("n", 39)).it.explore(), 4);
        Check.refuses("41 of the third", TOO_GREAT, () -> Game.of(text + "(more 2)" + set("n", 40)).it.explore());
        Check.due("41 of the third, which is terminal", Game.of(text + set("n", 40)).it.explore(), 3);
    }

    /**
     * What is worked out each time has a work of 10000000: 33 rooms of 300000, and 100000. The state
     * without terms comes next to itself, so there are three times: of no state and no moves, of the
     * state, and by its one joint move.
     */
    private static final String WORK = "(role x)(role y)(legal x m)(legal y m)" + set("n", 10) + set("c", 3)
            + "(<=(t ?x ?y)(n ?x)(n ?y))(<=(e ?x ?y)(n ?x)(c ?y))" + "(<=v(t ?a ?b)(t ?d ?f)(e ?g ?h))".repeat(33)
            + "(<=v(t ?a ?b)(e ?d ?f)(e ?g ?h))(<=v(t ?a ?b)(e ?d ?f)(c ?g))(<=v(c ?a)(c ?b)(c ?d)(c ?f)(n ?g))"
            + "(<=v(role ?a)(role ?b)(n ?d))(<=v(c ?a))\n";

    /** Terms 5: "or work of more than 30000000 in all (of the initial state, of no state and no moves; of each state [...])". */
    private static void workAtMost() {
        Game game = Game.of(WORK);
        Check.due("30000000", game.it.explore(), 1);
        Check.due("known", game.it.defect(0), 6);
        Game more = Game.of(WORK + "(<=w(does x m))");
        Check.refuses("30000002 by two atoms of does", TOO_GREAT, () -> more.it.explore());
        Check.refuses("not known", NOT_KNOWN, () -> more.it.defect(0));
        // three times one less, and two times two by the moves: 29999997 + 4
        String less = WORK.replace("(<=v(c ?a))", "(<=v(role ?a))");
        Check.due("29999999", Game.of(less + "(<=w(does x m))").it.explore(), 1);
        Check.refuses("30000001", TOO_GREAT, () -> Game.of(less + "(<=w(does x m))(<=w(does y m))").it.explore());
        // three times two less, and three times two by the moves: where there are none, they are no work
        String least = WORK.replace("(<=v(c ?a))", "(<=v)") + "(<=w(does x m))(<=w(does y m))(<=w(does ?r m))";
        Check.due("29999994 and 6", Game.of(least).it.explore(), 1);
        Check.refuses("29999997 and 6", TOO_GREAT, () -> Game.of(least.replace("(<=v)", "(<=v(role ?a))")).it.explore());
        Check.refuses("30000003 by a rule without conditions", TOO_GREAT, () -> Game.of(WORK + "w").it.explore());
        Check.refuses("30000003 by a rule without positive ones", TOO_GREAT,
                () -> Game.of(WORK + "(<=w(not v))").it.explore());
        Check.due("a rule without room", Game.of(WORK + "(<=w none)").it.explore(), 1);
        Check.due("start() and play() have no such limit", more.it.start() + more.it.play(0), 0);
        Check.due("the same sheet again", game.it.read(), 0);
        Check.due("has its own work", game.it.explore(), 1);
    }

    /** Terms 5: "and, if it isn't terminal, by each joint move". */
    private static void workOfTerminalOnes() {
        Check.due("20000002 and no joint moves", Game.of(WORK + "terminal").it.explore(), 1);
        Check.refuses("30000003 by the joint move of one that isn't", TOO_GREAT,
                () -> Game.of(WORK + "(<=w(not none))").it.explore());
        Check.refuses("two joint moves", TOO_GREAT, () -> Game.of(WORK + "(legal x n)").it.explore());
    }

    /** Terms 5: "1 there are not two roles". */
    private static void notTwoRoles() {
        String rest = "(legal a m)(goal a 100)terminal";
        defect(rest, 1, -1);
        defect("(role a)" + rest, 1, -1);
        defect("(role a)(role a)" + rest, 1, -1);
        defect("(role a)(role b)(goal b 0)" + rest, 0, -1);
        defect("(role a)(role b)(role a)(goal b 0)" + rest, 0, -1);
        defect("(role a)(role b)(role c)(goal b 0)(goal c 0)" + rest, 1, -1);
        defect("(role a)(role b)(role c)(role d)(goal b 0)" + rest, 1, -1);
        defect("(role a)(role b)(role c)(role d)(role e)(goal b 0)" + rest, 1, -1);
        defect("(role a)(role b)(role c)", 1, -1);
    }

    /** Terms 5: "2 a role of one that isn't terminal has no move". */
    private static void aRoleHasNoMove() {
        String two = "(role a)(role b)";
        defect(two, 2, 0);
        defect(two + "(legal a m)", 2, 0);
        defect(two + "(legal b m)", 2, 0);
        defect(two + "(legal a m)(legal a n)", 2, 0);
        defect(two + "(legal a m)(goal a 100)(goal b 0)terminal", 0, -1);
        defect(two + "(goal a 100)(goal b 0)terminal", 0, -1);
        defect(two + "(init i)(legal a m)(<=(legal b m)(true i))", 2, 1);
    }

    /** Terms 5: "3 both roles of such a one have more than one". */
    private static void bothHaveMoreThanOne() {
        String end = "(role a)(role b)(init i)(<=terminal(true n))(goal a 50)(goal b 50)(next n)";
        defect(end + "(legal a m)(legal b m)", 0, -1);
        defect(end + "(legal a m)(legal a n)(legal b m)", 0, -1);
        defect(end + "(legal a m)(legal b m)(legal b n)", 0, -1);
        defect(end + "(legal a m)(legal a n)(legal b m)(legal b n)", 3, 0);
        defect(end + "(legal a m)(legal a n)(legal a o)(legal b m)(legal b n)", 3, 0);
        defect(end + "(legal a m)(<=(legal a n)(true n))(legal b m)(<=(legal b n)(true n))", 0, -1);
        defect(WALK + "(x a b)(y b c)(y b d)(x b e)(x b f)(l c 50 50)", 3, 1);
    }

    /** Terms 5: "4 a role of a terminal one has no goal, or several". */
    private static void noGoalOrSeveral() {
        String end = "(role a)(role b)terminal";
        defect(end + "(goal a 50)(goal b 50)", 0, -1);
        defect(end, 4, 0);
        defect(end + "(goal a 100)", 4, 0);
        defect(end + "(goal b 100)", 4, 0);
        defect(end + "(goal a 100)(goal b 101)", 4, 0);
        defect(end + "(goal a 50)(goal a 51)(goal b 50)", 4, 0);
        defect(end + "(goal a 50)(goal b 50)(goal b 51)", 4, 0);
        defect(end + "(goal a 50)(goal a 050)(goal b 50)", 0, -1);
        defect(end + "(goal a 50)(goal a 101)(goal a x)(goal b 50)", 0, -1);
        defect("(role a)(role b)(init i)(legal a m)(legal b m)(next n)(<=terminal(true n))(<=(goal a 0)(true n))"
                + "(<=(goal b 100)(true n))(<=(goal b 7)(true i))", 0, -1);
    }

    /** Terms 5: "5 its two goals don't make up 100". */
    private static void goalsDontMakeUp100() {
        String end = "(role a)(role b)terminal";
        int[][] goals = {{100, 0}, {0, 100}, {50, 50}, {1, 99}, {99, 1}, {0, 0}, {100, 100}, {50, 49}, {50, 51}, {100, 1},
            {0, 99}};
        for (int[] both : goals) {
            boolean well = both[0] + both[1] == 100;
            defect(end + "(goal a " + both[0] + ")(goal b " + both[1] + ")", well ? 0 : 5, well ? -1 : 0);
        }
        defect(WALK + "(x a b)(l a 10 10)(l b 100 0)", 0, -1);
    }

    /** Terms 5: "for each state in the order of their numbers, the first of" 2 to 5. */
    private static void inTheOrderOfStates() {
        String text = WALK + "(x a b)(x a c)(x a d)(x a e)";
        String b = "(l b 50 50)";
        String c = "(l c 50 50)";
        String d = "(l d 50 50)";
        String e = "(l e 50 50)";
        defect(text + b + c + d + e, 0, -1);
        defect(text + b + c + d + "(l e 50 5)", 5, 4);
        defect(text + b + c + "(l e 50 5)", 4, 3);
        defect(text + b + "(l c 1 1)(l e 50 5)", 5, 2);
        defect(text + "(x b b)(x b c)(y b b)(y b c)(l c 1 1)", 3, 1);
        defect(text + "(l b 0 0)(x c b)(x c d)(y c b)(y c d)", 5, 1);
        defect(text + "(l c 0 0)(x d b)(x d c)(y d b)(y d c)" + b + e, 5, 2);
    }

    /** Terms 5: "6 the least state from which one can come to it again", by one joint move or more. */
    private static void comesToItAgain() {
        defect("(role a)(role b)(legal a m)(legal b m)", 6, 0);
        defect(WALK + "(x a a)", 6, 0);
        defect(WALK + "(x a b)(y b a)", 6, 0);
        defect(WALK + "(x a b)(y b c)(x c d)(y d a)", 6, 0);
        defect(WALK + "(x a b)(y b c)(x c d)(l d 0 100)", 0, -1);
        defect(WALK + "(x a b)(x a c)(y b d)(y c d)(l d 0 100)", 0, -1);
        defect(WALK + "(x a b)(x a c)(x a d)(y b c)(y b d)(y c d)(l d 0 100)", 0, -1);
    }

    /** Terms 5: "the least state": not the first that leads into a round, and not one of a greater number. */
    private static void leastThatComesAgain() {
        defect(WALK + "(x a b)(y b b)", 6, 1);
        defect(WALK + "(x a b)(y b c)(x c c)", 6, 2);
        defect(WALK + "(x a b)(y b c)(x c b)", 6, 1);
        defect(WALK + "(x a b)(x a c)(y c c)(l b 0 100)", 6, 2);
        defect(WALK + "(x a b)(x a c)(y b d)(y c c)(x d d)", 6, 2);
        // 0 a, 1 b, 2 c, 3 d, 4 e: c is in the round of d and e
        defect(WALK + "(x a b)(x a c)(y b d)(x d e)(y e c)(x c d)", 6, 2);
        defect(WALK + "(x a b)(x a c)(y b d)(x d e)(y e b)(y c c)", 6, 1);
        // 0 a, 1 b, 2 c, 3 d, 4 e: b is come to from the round, but leads out of it
        defect(WALK + "(x a b)(x a c)(x a d)(y b c)(x c e)(y d b)(y d d)(l e 0 100)", 6, 3);
    }

    /** Terms 5: "then, if no state has one of these". */
    private static void comesAgainLast() {
        defect(WALK + "(x a a)(x a b)(l b 1 1)", 5, 1);
        defect(WALK + "(x a a)(x a b)", 4, 1);
        defect(WALK + "(x a a)(x a b)(l b 0 100)", 6, 0);
        defect(WALK + "(x a a)(x a b)(x b b)(x b a)(y b b)(y b a)", 3, 1);
    }

    /** Terms 5: "VALUE: of a terminal one the first role's goal". */
    private static void valueOfATerminalOne() {
        for (int goal : new int[] {0, 1, 50, 99, 100}) {
            Game game = explored("(role a)(role b)terminal(goal b " + (100 - goal) + ")(goal a " + goal + ")");
            Check.due("a goal of " + goal, values(game), goal + ":-1");
        }
        Check.due("though it has moves", values(explored("(role a)(role b)(legal a m)(legal a n)(legal b m)terminal"
                + "(goal a 030)(goal b 70)")), "30:-1");
    }

    /** Terms 5: "of others the greatest of the next ones' if the first role has more than one move". */
    private static void valueOfTheFirstRole() {
        Check.due("the last is the greatest", values(explored(WALK + "(x a b)(x a c)(x a d)(l b 0 100)(l c 1 99)(l d 2 98)")),
                "2:2 0:-1 1:-1 2:-1");
        Check.due("the first is the greatest", values(explored(WALK + "(x a b)(x a c)(l b 100 0)(l c 99 1)")),
                "100:0 100:-1 99:-1");
        Check.due("all 0", values(explored(WALK + "(x a b)(x a c)(l b 0 100)(l c 0 100)")), "0:0 0:-1 0:-1");
    }

    /** Terms 5: "the least if the second one has". */
    private static void valueOfTheSecondRole() {
        Check.due("the last is the least", values(explored(WALK + "(y a b)(y a c)(y a d)(l b 100 0)(l c 99 1)(l d 98 2)")),
                "98:2 100:-1 99:-1 98:-1");
        Check.due("the first is the least", values(explored(WALK + "(y a b)(y a c)(l b 0 100)(l c 1 99)")),
                "0:0 0:-1 1:-1");
        Check.due("all 100", values(explored(WALK + "(y a b)(y a c)(l b 100 0)(l c 100 0)")), "100:0 100:-1 100:-1");
    }

    /** Terms 5: "and that of the one next one otherwise". */
    private static void valueOfTheOneNextOne() {
        Check.due("one each", values(explored(WALK + "(x a b)(y b c)(x c d)(l d 37 63)")), "37:0 37:0 37:0 37:-1");
        Check.due("these, and others", values(explored(WALK + "(x a b)(x a c)(y b d)(y c e)(y c f)(l d 5 95)(l e 90 10)(l f 4 96)")),
                "5:0 5:0 4:1 5:-1 90:-1 4:-1");
        // a and b go on, by one or by two moves, to states of greater and of less numbers
        Check.due("through greater numbers", values(explored(WALK + "(x a b)(x a c)(x a d)(y b d)(y c b)(l d 20 80)")),
                "20:0 20:0 20:0 20:-1");
    }

    /** Terms 5: "The BEST joint move is the first one to a next state of that value." */
    private static void bestIsTheFirst() {
        Check.due("the greatest", values(explored(WALK + "(x a b)(x a c)(x a d)(x a e)(l b 1 99)(l c 9 91)(l d 9 91)(l e 8 92)")),
                "9:1 1:-1 9:-1 9:-1 8:-1");
        Check.due("the least", values(explored(WALK + "(y a b)(y a c)(y a d)(y a e)(l b 9 91)(l c 1 99)(l d 1 99)(l e 2 98)")),
                "1:1 9:-1 1:-1 1:-1 2:-1");
        Check.due("two moves to one state", values(explored("(role a)(role b)(init i)(legal a m)(legal a n)(legal a o)(legal b m)"
                + "(<=(next p)(does a m))(<=(next q)(does a n))(<=(next q)(does a o))(<=terminal(true p))(<=terminal(true q))"
                + "(<=(goal a 3)(true p))(<=(goal b 97)(true p))(<=(goal a 4)(true q))(<=(goal b 96)(true q))")),
                "4:1 3:-1 4:-1");
        StringBuilder forty = new StringBuilder("(role a)(role b)(init i)(legal b m)(<=(legal a ?x)(n ?x))(<=(next ?x)(does a ?x))");
        forty.append(set("n", 40)).append("(<=terminal(true ?x)(n ?x))(<=(goal a 9)(true 9))(<=(goal b 91)(true 9))");
        forty.append("(<=(goal a 1)(true ?x)(distinct ?x 9))(<=(goal b 99)(true ?x)(distinct ?x 9))");
        Check.due("the last of forty", values(explored(forty.toString())).substring(0, 4), "9:39");
    }

    /** Promise 13: "Finds all states (once for a sheet): how many; the state stays." */
    private static void exploreCounts() {
        Game game = Game.of(WALK + "(x a b)(x a c)(y b d)(y b e)(l c 1 99)(l d 1 99)(l e 1 99)");
        Check.due("without a state", game.it.explore(), 5);
        Check.refuses("there is still none", NOT_KNOWN, () -> game.it.terminal() ? 1 : 0);
        game.it.start();
        game.it.play(0);
        Check.due("again", game.it.explore(), 5);
        Check.due("the state stays", game.state(1), "(at b)");
        Game other = Game.of(WALK + "(x a b)(x a c)(y b d)(y b e)(l c 1 99)(l d 1 99)(l e 1 99)");
        other.it.start();
        other.it.play(0);
        Check.due("with a state", other.it.explore(), 5);
        Check.due("that state stays", other.state(1), "(at b)");
        Check.due("with its moves", other.moves(1), "d, e");
        Check.due("and goes on", other.it.play(1), 1);
        Check.due("to", other.state(1), "(at e)");
        Check.due("the states stay, too", other.it.next(1, 1), 4);
        Game none = new Game();
        Check.refuses("without a sheet", NOT_KNOWN, () -> none.it.explore());
        none.read("(p");
        Check.refuses("still without", NOT_KNOWN, () -> none.it.explore());
    }

    /** Promise 13: "UnsupportedOperationException if it is too great (they are not known then, if they weren't)." */
    private static void exploreTooGreat() {
        Game game = Game.of("(role r)(init i)(legal r m)(<=(next(f ?x))(true ?x))");
        game.it.start();
        game.it.play(0);
        for (int times = 0; times < 2; times++) {
            Check.refuses("too great", TOO_GREAT, () -> game.it.explore());
            Check.refuses("not known to defect()", NOT_KNOWN, () -> game.it.defect(0));
            Check.refuses("not known to state()", NOT_KNOWN, () -> game.it.state(0, 0));
            Check.refuses("not known to next()", NOT_KNOWN, () -> game.it.next(0, 0));
            Check.refuses("not known to value()", NOT_KNOWN, () -> game.it.value(0));
            Check.refuses("not known to best()", NOT_KNOWN, () -> game.it.best(0));
        }
        Check.due("the state stays", game.state(1), "(f i)");
        Check.due("and goes on", game.it.play(0), 1);
        Check.due("to", game.state(1), "(f (f i))");
        Check.due("another sheet", game.read(WALK + "(x a b)(l b 0 100)"), 0);
        Check.due("isn't", game.it.explore(), 2);
        Check.due("a third", game.read("(role r)(init i)(legal r m)(<=(next(f ?x))(true ?x))"), 0);
        Check.refuses("is again", TOO_GREAT, () -> game.it.explore());
        Check.refuses("nothing is left of the second", NOT_KNOWN, () -> game.it.state(0, 0));
    }

    /** Promise 4: "its states not known": a sheet is explored on its own; promise 13: "once for a sheet". */
    private static void exploreOnce() {
        Game game = explored(WALK + "(x a b)(l b 0 100)");
        Check.due("a fault leaves them", game.read("("), 1);
        Check.due("as they are", game.it.explore() + game.it.value(0), 2);
        Check.due("another sheet", game.read(WALK + "(x a b)(x a c)(l b 0 100)(l c 100 0)"), 0);
        Check.refuses("its states aren't known", NOT_KNOWN, () -> game.it.value(0));
        Check.due("before they are found", game.it.explore(), 3);
        Check.due("its value", game.it.value(0), 100);
    }

    /** Promise 13: of states that were found for another sheet nothing is left. */
    private static void exploreForgets() {
        String[] texts = {WALK + "(x a b)(y b a)", WALK + "(x a b)(l b 0 100)", "p", WALK + "(x a b)(x a c)(l b 1 99)",
            WALK + "(x a b)(x a c)(l b 100 0)(l c 50 50)", "(role a)(role b)"};
        int[] kinds = {6, 0, 1, 4, 0, 2};
        int[] flawed = {0, -1, -1, 2, -1, 0};
        int[] states = {2, 2, 1, 3, 3, 1};
        for (int first = 0; first < texts.length; first++) {
            for (int second = 0; second < texts.length; second++) {
                Game game = explored(texts[first]);
                game.read(texts[second]);
                Check.due("explore() of " + second + " behind " + first, game.it.explore(), states[second]);
                Check.due("its defect", game.it.defect(0), kinds[second]);
                Check.due("its defect's state", game.it.defect(1), flawed[second]);
                Check.due("its value", Check.answer(() -> game.it.value(0)), kinds[second] != 0 ? "IllegalStateException"
                        : second == 1 ? "0" : "100");
            }
        }
    }

    /** Promise 13: "the state stays", with its moves, though they are made of other terms than all that is found. */
    private static void exploreBesideTheState() {
        String text = "(role x)(role y)(init(at(p 0)))(s 0 1)(s 1 2)(s 2 3)(<=(legal x(go(at ?t)(by(at ?t))))(true(at ?t)))"
                + "(<=(legal y(see ?t))(true ?t))(<=(next(at(p ?j)))(true(at(p ?i)))(s ?i ?j))"
                + "(<=(next(did ?m))(does x ?m)(true(at(p 0))))(<=terminal(true(at(p 3))))";
        Game game = Game.of(text);
        game.it.start();
        game.it.play(0);
        String state = "(at (p 1)), (did (go (at (p 0)) (by (at (p 0)))))";
        Check.due("the state", game.state(2), state);
        String moves = "(go (at (p 1)) (by (at (p 1))))";
        Check.due("a move", game.text(1, 0), moves);
        Check.due("explore()", game.it.explore(), 4);
        Check.due("the state stays", game.state(2), state);
        Check.due("the move stays", game.text(1, 0), moves);
        Check.due("the other's stays", game.text(2, 1).substring(0, 10), "(see (did ");
        Check.due("play() goes on", game.it.play(0), 1);
        Check.due("to", game.state(1), "(at (p 2))");
        Game other = Game.of(text);
        other.it.start();
        other.it.play(0);
        Check.due("explore() ahead of the moves", other.it.explore(), 4);
        Check.due("the moves come then", other.text(1, 0), moves);
    }

    /** Promise 13: "Finds all states", also where the one joint move is of terms that only the state makes. */
    private static void exploreByOneMadeMove() {
        String text = "(role x)(role y)(init(c 0))(n 0)(n 1)(n 2)(legal y w)(<=(legal x(put ?t(f ?t)))(true(c ?t))(n ?t))"
                + "(<=(b(g ?r ?m)(h ?m ?r))(does ?r ?m))(<=(next(did ?m))(does x ?m)(b ?y ?z))"
                + "(<=end(true(did(put ?t(f ?t)))))(<=terminal end)(<=(goal x 100)end)(<=(goal y 0)end)";
        Game game = explored(text);
        Check.due("two states", game.it.explore(), 2);
        Check.due("the second is terminal", game.it.state(1, 1), 1);
        Check.due("all values", values(game), "100:0 100:-1");
    }

    /** Promise 14: "The first defect (what = 0; 0 if there is none), its state (1; NONE for 0 and 1)." */
    private static void defectTells() {
        String[] texts = {"(role a)(role b)terminal(goal a 0)(goal b 100)", "p", "(role a)(role b)",
            "(role a)(role b)(legal a m)(legal a n)(legal b m)(legal b n)", "(role a)(role b)terminal",
            "(role a)(role b)terminal(goal a 0)(goal b 0)", "(role a)(role b)(legal a m)(legal b m)"};
        for (int kind = 0; kind < 7; kind++) {
            Game game = explored(texts[kind]);
            Check.due("defect(0) of " + kind, game.it.defect(0), kind);
            Check.due("defect(1) of " + kind, game.it.defect(1), kind < 2 ? -1 : 0);
        }
    }

    /** Promise 14: "IllegalStateException if the states aren't known; IllegalArgumentException for another what." */
    private static void defectRefused() {
        Game game = Game.of(WALK + "(x a b)(l b 0 100)");
        int[] all = {0, 1, 2, -1, Integer.MAX_VALUE, Integer.MIN_VALUE};
        for (int what : all) {
            Check.refuses("defect(" + what + ") before", NOT_KNOWN, () -> game.it.defect(what));
        }
        game.it.explore();
        for (int what : all) {
            if (what != 0 && what != 1) {
                Check.refuses("defect(" + what + ")", NO_WHAT, () -> game.it.defect(what));
            }
        }
        Check.due("defect(1)", game.it.defect(1), -1);
    }

    /** Promise 15: "0 how many terms it has, 1 whether it is terminal (1 or 0), 2 how many joint moves (0 if [...])". */
    private static void stateTells() {
        Game game = explored("(role a)(role b)(init p)(init q)(legal a m)(legal a n)(legal a o)(legal b m)(legal b n)"
                + "(<=(next ?m)(does a ?m))(<=(next x)(does a o))(<=(next y)(does a o))(<=terminal(true m))"
                + "(<=(next z)(true n))");
        // 0 p q, 1 m, 2 n, 3 o x y; of n come m z, n z, o x y z
        Check.due("explore()", game.it.explore(), 7);
        int[][] due = {{2, 0, 6}, {1, 1, 0}, {1, 0, 6}, {3, 0, 6}, {2, 1, 0}, {2, 0, 6}, {4, 0, 6}};
        for (int n = 0; n < due.length; n++) {
            for (int what = 0; what < 3; what++) {
                Check.due("state(" + n + ", " + what + ")", game.it.state(n, what), due[n][what]);
            }
        }
        Check.due("no terms", explored("p").it.state(0, 0), 0);
        Check.due("0 if the first role has no move", explored("(role a)(role b)(legal b m)").it.state(0, 2), 0);
        Check.due("0 if the second role has no move", explored("(role a)(role b)(legal a m)").it.state(0, 2), 0);
        Check.due("0 if it is terminal", explored("(role a)(legal a m)terminal").it.state(0, 2), 0);
        Check.due("0 without roles", explored("(legal a m)").it.state(0, 2), 0);
        Check.due("1", explored("(role a)(legal a m)").it.state(0, 2), 1);
        Check.due("60 terms", explored("(role a)" + set("n", 10) + set("m", 6) + "(<=(init(f ?x ?y))(n ?x)(m ?y))")
                .it.state(0, 0), 60);
    }

    /** Promise 15: "IndexOutOfBoundsException if there is no such state; IllegalArgumentException for another what", in this order. */
    private static void stateRefused() {
        Game game = Game.of(WALK + "(x a b)(l b 0 100)");
        Check.refuses("state(0, 0) before", NOT_KNOWN, () -> game.it.state(0, 0));
        Check.refuses("state(-1, 9) before", NOT_KNOWN, () -> game.it.state(-1, 9));
        Check.refuses("state(0, 9) before", NOT_KNOWN, () -> game.it.state(0, 9));
        game.it.explore();
        for (int n : new int[] {-1, 2, 299, 300, Integer.MAX_VALUE, Integer.MIN_VALUE}) {
            for (int what : new int[] {0, 1, 2, 3, -1}) {
                Check.refuses("state(" + n + ", " + what + ")", NO_SUCH, () -> game.it.state(n, what));
            }
        }
        for (int what : new int[] {-1, 3, Integer.MAX_VALUE, Integer.MIN_VALUE}) {
            Check.refuses("state(0, " + what + ")", NO_WHAT, () -> game.it.state(0, what));
            Check.refuses("state(1, " + what + ")", NO_WHAT, () -> game.it.state(1, what));
        }
    }

    /** Promise 16: "IndexOutOfBoundsException if there is no such state or joint move, or it is terminal." */
    private static void nextRefused() {
        Game game = Game.of(WALK + "(x a b)(x a c)(l b 0 100)(l c 0 100)");
        Check.refuses("next(0, 0) before", NOT_KNOWN, () -> game.it.next(0, 0));
        Check.refuses("next(-1, -1) before", NOT_KNOWN, () -> game.it.next(-1, -1));
        game.it.explore();
        for (int n : new int[] {-1, 3, 300, Integer.MAX_VALUE, Integer.MIN_VALUE}) {
            Check.refuses("next(" + n + ", 0)", NO_SUCH, () -> game.it.next(n, 0));
        }
        for (int j : new int[] {-1, 2, 40, Integer.MAX_VALUE, Integer.MIN_VALUE}) {
            Check.refuses("next(0, " + j + ")", NO_SUCH, () -> game.it.next(0, j));
        }
        Check.refuses("of a terminal one", NO_SUCH, () -> game.it.next(1, 0));
        Check.refuses("of the last one", NO_SUCH, () -> game.it.next(2, 0));
        Check.due("next(0, 1)", game.it.next(0, 1), 2);
        Game stuck = explored("(role a)(role b)(legal a m)");
        Check.refuses("where a role has no move", NO_SUCH, () -> stuck.it.next(0, 0));
        Game flawed = explored("(role a)(legal a m)");
        Check.due("a defect is no matter", flawed.it.next(0, 0), 0);
    }

    /** Promise 17: "IllegalStateException if the states aren't known, or have a defect; IndexOutOfBoundsException if there is no such state." */
    private static void valueRefused() {
        Game game = Game.of(WALK + "(x a b)(x a c)(l b 0 100)(l c 0 100)");
        int[] all = {0, 2, -1, 3, 300, Integer.MAX_VALUE, Integer.MIN_VALUE};
        for (int n : all) {
            Check.refuses("value(" + n + ") before", NOT_KNOWN, () -> game.it.value(n));
            Check.refuses("best(" + n + ") before", NOT_KNOWN, () -> game.it.best(n));
        }
        game.it.explore();
        for (int n : all) {
            if (n < 0 || n > 2) {
                Check.refuses("value(" + n + ")", NO_SUCH, () -> game.it.value(n));
                Check.refuses("best(" + n + ")", NO_SUCH, () -> game.it.best(n));
            }
        }
        Check.due("value(2)", game.it.value(2), 0);
        String[] flawed = {"p", "(role a)(role b)", "(role a)(role b)(legal a m)(legal a n)(legal b m)(legal b n)",
            "(role a)(role b)terminal", "(role a)(role b)terminal(goal a 0)(goal b 0)",
            "(role a)(role b)(legal a m)(legal b m)"};
        for (String text : flawed) {
            Game other = explored(text);
            for (int n : all) {
                Check.refuses("value(" + n + ") of " + text, NOT_KNOWN, () -> other.it.value(n));
                Check.refuses("best(" + n + ") of " + text, NOT_KNOWN, () -> other.it.best(n));
            }
        }
    }

    /** Promise 18: "NONE if it is terminal." */
    private static void bestOfATerminalOne() {
        Game game = explored(WALK + "(x a b)(x a c)(y c d)(l b 0 100)(l d 100 0)");
        Check.due("all values and best moves", values(game), "100:1 0:-1 100:0 100:-1");
        Check.due("another sheet of as many states", game.read(WALK + "(x a b)(y b c)(y b d)(l c 10 90)(l d 0 100)"), 0);
        Check.due("all of them", values(game), "0:0 0:1 10:-1 0:-1");
    }

    /** "An object is used for at most 512 calls after it has been made": the 512th answers as the first does. */
    private static void calls512() {
        RuleSheets it = new RuleSheets();
        String text = "(role x)(role y)(init 0)(s 0 1)(s 1 2)(legal x a)(legal x b)(legal y c)(<=(next ?y)(true ?x)(s ?x ?y))"
                + "(<=terminal(true 2))(goal x 60)(goal y 40)  ";
        int calls = 0;
        for (int i = 0; i < text.length(); i += 4) {
            int signs = 0;
            for (int k = 0; k < 4 && i + k < text.length(); k++) {
                signs |= text.charAt(i + k) << 8 * k;
            }
            Check.due("put()", it.put(signs), Math.min(i + 4, text.length()));
            calls++;
        }
        for (; calls < 506; calls += 6) {
            Check.due("read()", it.read(), 0);
            Check.due("explore()", it.explore(), 3);
            Check.due("start()", it.start(), 1);
            Check.due("play(1)", it.play(1), 1);
            Check.due("terminal()", it.terminal() ? 1 : 0, 0);
            Check.due("value(0)", it.value(0), 60);
        }
        for (; calls < 511; calls++) {
            Check.due("moves(0)", it.moves(0), 2);
        }
        Check.due("the 512th call", it.sign(0, 0, 0), '1');
    }
}

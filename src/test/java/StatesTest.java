/** Promises 13 to 18, and term 5: all states, their defects, values and best moves. */
final class StatesTest {
    private static final Class<IllegalStateException> NOT_KNOWN = IllegalStateException.class;
    private static final Class<IndexOutOfBoundsException> NO_SUCH = IndexOutOfBoundsException.class;
    private static final Class<IllegalArgumentException> NO_WHAT = IllegalArgumentException.class;

    /** Two walk in turn along edges; where none leads on the game ends, and l tells the goals. */
    private static final String WALK = "(role x)(role y)(init (at a))(init (turn x))(o x y)(o y x)"
            + "(<= (in ?p) (e ?p ?q))"
            + "(<= (legal ?r ?q) (true (turn ?r))(true (at ?p))(e ?p ?q))"
            + "(<= (legal ?r wait) (role ?r)(not (true (turn ?r))))"
            + "(<= (next (at ?q)) (true (turn ?r))(does ?r ?q))"
            + "(<= (next (turn ?s)) (true (turn ?r))(o ?r ?s))"
            + "(<= terminal (true (at ?p))(not (in ?p)))"
            + "(<= (goal x ?m) (true (at ?p))(l ?p ?m ?n))"
            + "(<= (goal y ?n) (true (at ?p))(l ?p ?m ?n))\n";

    /** x goes to b, c or d; then y goes on to the leaves. */
    private static final String TREE = "(e a b)(e a c)(e a d)(e b f)(e b g)(e c h)(e c i)(e d h)"
            + "(l f 10 90)(l g 80 20)(l h 40 60)(l i 50 50)";

    private StatesTest() {
    }

    public static void main(String[] args) {
        promise13Explore();
        promise13Stays();
        promise13Order();
        promise13MadeMoves();
        promise14NotTwoRoles();
        promise14DefectsOfStates();
        promise14Rounds();
        promise14Throws();
        promise15State();
        promise16Next();
        promise17Value();
        promise18Best();
        knownAgain();
        Check.finish("StatesTest");
    }

    private static Game explored(String text) {
        Game game = Game.of(text);
        game.it.explore();
        return game;
    }

    private static void promise13Explore() {
        Game game = Game.of(WALK + TREE);
        Check.refuses("not known before", NOT_KNOWN, () -> game.it.state(0, 0));
        Check.due("explore()", game.it.explore(), 8);
        Check.due("explore() again", game.it.explore(), 8);
        Check.refuses("there is still no state", NOT_KNOWN, () -> game.it.moves(0));
        Check.due("start()", game.it.start(), 2);
        game.it.play(1);
        Check.due("the state", game.state(2), "(at c), (turn y)");
        Check.due("explore() with a state", game.it.explore(), 8);
        Check.due("the state stays", game.state(2), "(at c), (turn y)");
        Check.due("the moves, too", game.moves(1), "h, i");
        Game second = Game.of(WALK + TREE);
        second.it.start();
        second.it.play(1);
        second.it.moves(0);
        Check.due("explore() from another state", second.it.explore(), 8);
        Check.due("that state stays", second.state(2), "(at c), (turn y)");
        Check.due("its moves, too", second.moves(1), "h, i");
        Check.due("and it goes on", second.it.play(1), 2);
        Check.due("to", second.state(2), "(at i), (turn x)");
        Check.due("no init, no roles", Game.of("p").it.explore(), 1);
        Check.due("the empty state comes again", Game.of("(role a)(legal a m)").it.explore(), 1);
        Check.due("nothing comes of a terminal one", Game.of("(role a)(legal a m)(<= (next ?m) (does ?r ?m))"
                + "terminal").it.explore(), 1);
        Check.due("from the empty one", Game.of("(role a)(legal a m)(legal a n)(<= (next ?m) (does ?r ?m))")
                .it.explore(), 3);
    }

    /** Moves that are made of parts stay what they were, whatever is worked out meanwhile. */
    private static void promise13Stays() {
        String text = "(role x)(role y)(n 0)(n 1)(n 2)(n 3)(n 4)(n 5)(n 6)(n 7)(n 8)(n 9)(init (at 0 0))(s 0 1)(s 1 2)(s 2 3)"
                + "(<= (legal x (go ?v ?w)) (true (at ?x ?y)) (s ?x ?v) (s ?y ?w))"
                + "(<= (legal x (stay (at ?x ?y))) (true (at ?x ?y)))"
                + "(<= (legal y (see ?t)) (true ?t))"
                + "(<= (next (at ?v ?w)) (does x (go ?v ?w)))(<= (next ?t) (does x (stay ?t)))"
                + "(<= (big ?x ?y ?z) (does x (stay (at 2 2))) (n ?x) (n ?y) (n ?z))";
        Game game = Game.of(text);
        game.it.start();
        game.it.play(0);
        Check.due("the moves", game.moves(0), "(go 2 2), (stay (at 1 1))");
        Check.refuses("too great to explore", UnsupportedOperationException.class, () -> game.it.explore());
        Check.due("the moves stay", game.moves(0), "(go 2 2), (stay (at 1 1))");
        Check.due("the other's, too", game.moves(1), "(see (at 1 1))");
        game.it.play(0);
        Check.due("the moves then", game.moves(0), "(go 3 3), (stay (at 2 2))");
        Check.refuses("too great to play", UnsupportedOperationException.class, () -> game.it.play(1));
        Check.due("the moves stay again", game.moves(0), "(go 3 3), (stay (at 2 2))");
        Check.due("the other's, too, again", game.moves(1), "(see (at 2 2))");
        Check.due("play(0)", game.it.play(0), 1);
        Check.due("the state", game.state(1), "(at 3 3)");
        Game well = Game.of(text.substring(0, text.indexOf("(<= (big")));
        well.it.start();
        well.it.play(0);
        well.it.play(0);
        Check.due("the moves of it", well.moves(0), "(go 3 3), (stay (at 2 2))");
        Check.due("explore()", well.it.explore(), 4);
        Check.due("the moves of it stay", well.moves(0), "(go 3 3), (stay (at 2 2))");
        Check.due("the other's of it", well.moves(1), "(see (at 2 2))");
        Check.due("play(1)", well.it.play(1), 1);
        Check.due("the state of it", well.state(1), "(at 2 2)");
    }

    private static void promise13Order() {
        Game game = explored(WALK + TREE);
        // 0 a, 1 b, 2 c, 3 d, 4 f, 5 g, 6 h, 7 i
        int[][] nexts = {{1, 2, 3}, {4, 5}, {6, 7}, {6}, {}, {}, {}, {}};
        for (int n = 0; n < nexts.length; n++) {
            Check.due("joint moves of " + n, game.it.state(n, 2), nexts[n].length);
            Check.due("whether " + n + " is terminal", game.it.state(n, 1), n > 3 ? 1 : 0);
            for (int j = 0; j < nexts[n].length; j++) {
                Check.due("next(" + n + ", " + j + ")", game.it.next(n, j), nexts[n][j]);
            }
        }
        Game both = explored("(role a)(role b)(legal a 1)(legal a 0)(legal b 1)(legal b 0)(legal b 2)"
                + "(<= (next (f ?x ?y)) (does a ?x) (does b ?y)) (<= terminal (true ?x))");
        Check.due("seven states", both.it.explore(), 7);
        for (int j = 0; j < 6; j++) {
            Check.due("next(0, " + j + ")", both.it.next(0, j), j + 1);
        }
    }

    private static void defect(String text, int kind, int state) {
        Game game = explored(text);
        Check.due("defect(0) of " + text, game.it.defect(0), kind);
        Check.due("defect(1) of " + text, game.it.defect(1), state);
        if (kind != 0) {
            Check.refuses("value(0) of " + text, NOT_KNOWN, () -> game.it.value(0));
            Check.refuses("best(0) of " + text, NOT_KNOWN, () -> game.it.best(0));
            Check.refuses("value(-1) of " + text, NOT_KNOWN, () -> game.it.value(-1));
        }
    }

    /** Moves are terms that only the state makes, and others are made ahead of them by the move. */
    private static void promise13MadeMoves() {
        String text = "(role r)(init(c 0))(n 0)(n 1)(n 2)(<=(b(g ?m ?x ?y))(does r ?m)(n ?x)(n ?y))"
                + "(<=(legal r(put ?x ?y))(true(c ?x))(n ?y))"
                + "(<=(next(c ?y))(does r(put ?x ?y))(true(c ?x)))(<=(next(b ?z))(b(g ?z 0 ?x)))";
        Game game = Game.of(text);
        Check.due("a state for each move", game.it.explore(), 10);
        for (int n = 0; n < 10; n++) {
            for (int j = 0; j < 3; j++) {
                // State 1 + 3 x + y comes by (put x y), in the order in which they are found.
                int x = n == 0 ? 0 : (n - 1) % 3;
                Check.due("next(" + n + ", " + j + ")", game.it.next(n, j), 1 + 3 * x + j);
            }
        }
        game.it.start();
        game.it.play(2);
        Check.due("play() comes to the like", game.state(2), "(b (put 0 2)), (c 2)");
        Check.due("with its moves", game.moves(0), "(put 2 0), (put 2 1), (put 2 2)");
    }

    private static void promise14NotTwoRoles() {
        defect("p", 1, -1);
        defect("(role a)(goal a 100) terminal", 1, -1);
        defect("(role a)(role a)(goal a 100) terminal", 1, -1);
        defect("(role a)(role b)(role c)", 1, -1);
        defect("(role a)(role b)(role c)(role d)(role e)", 1, -1);
        defect("(role a)(legal a m)", 1, -1);
    }

    private static void promise14DefectsOfStates() {
        String two = "(role a)(role b)";
        defect(two + "(goal a 60)(goal b 40) terminal", 0, -1);
        defect(two + "(goal a 60)(goal b 040)(goal b 40) terminal", 0, -1);
        defect(two, 2, 0);
        defect(two + "(legal a m)", 2, 0);
        defect(two + "(legal b m)", 2, 0);
        defect(two + "(legal a m)(legal a n)(legal b m)(legal b n)", 3, 0);
        defect(two + "terminal", 4, 0);
        defect(two + "(goal a 100) terminal", 4, 0);
        defect(two + "(goal b 100) terminal", 4, 0);
        defect(two + "(goal a 100)(goal b 0)(goal b 1) terminal", 4, 0);
        defect(two + "(goal a 100)(goal a 50)(goal b 50) terminal", 4, 0);
        defect(two + "(goal a 100)(goal b 1) terminal", 5, 0);
        defect(two + "(goal a 0)(goal b 0) terminal", 5, 0);
        defect(two + "(legal a m)(legal a n)(legal b m)(legal b n)(goal a 1)(goal b 99) terminal", 0, -1);
        defect(WALK + TREE, 0, -1);
        defect(WALK + TREE.replace("(l f 10 90)", ""), 4, 4);
        defect(WALK + TREE.replace("(l f 10 90)", "(l f 10 91)"), 5, 4);
        defect(WALK + TREE + "(l f 11 89)", 4, 4);
        defect(WALK + TREE.replace("(l i 50 50)", "(l i 50 5)").replace("(l g 80 20)", "(l g 8 20)"), 5, 5);
        defect(WALK + TREE.replace("(l i 50 50)", "").replace("(l g 80 20)", "(l g 8 20)"), 5, 5);
        defect(WALK + TREE.replace("(l g 80 20)", "").replace("(l i 50 50)", "(l i 8 20)"), 4, 5);
        defect(WALK + TREE.replace("(l g 80 20)", "") + "(<= (legal y more) (true (at c)))"
                + "(<= (legal x more) (true (at c)))", 3, 2);
    }

    private static void promise14Rounds() {
        String two = "(role a)(role b)(legal b m)";
        defect(two + "(legal a m)", 6, 0);
        defect(WALK + "(e a b)(e b c)(e c b)", 6, 1);
        defect(WALK + "(e a b)(e a c)(e c d)(e d c)(l b 50 50)", 6, 2);
        defect(WALK + "(e a b)(e b c)(e c d)(e d b)(e b z)(l z 0 100)", 6, 1);
        defect(WALK + "(e a b)(e b c)(e c b)(e b z)(l z 0 99)", 5, 3);
        // the state of the greater number is come to first, but leads back to one of less
        defect(WALK + "(e a b)(e a c)(e b d)(e d b)(e c c)(l z 0 100)", 6, 1);
        defect(WALK + "(e a b)(e b a)", 6, 0);
    }

    private static void promise14Throws() {
        Game game = Game.of(WALK + TREE);
        Check.refuses("defect(0) before explore()", NOT_KNOWN, () -> game.it.defect(0));
        Check.refuses("defect(9) before explore()", NOT_KNOWN, () -> game.it.defect(9));
        game.it.explore();
        int[] bad = {-1, 2, Integer.MAX_VALUE, Integer.MIN_VALUE};
        for (int what : bad) {
            Check.refuses("defect(" + what + ")", NO_WHAT, () -> game.it.defect(what));
        }
    }

    private static void promise15State() {
        Game game = Game.of("(role a)(role b)(init p)(init q)(init r)(legal a m)(legal a n)(legal b m)"
                + "(<= (next ?m) (does a ?m))(<= terminal (true m))(<= stuck (true n))");
        Check.refuses("state(0, 0) before explore()", NOT_KNOWN, () -> game.it.state(0, 0));
        game.it.explore();
        int[][] all = {{3, 0, 2}, {1, 1, 0}, {1, 0, 2}};
        for (int n = 0; n < 3; n++) {
            for (int what = 0; what < 3; what++) {
                Check.due("state(" + n + ", " + what + ")", game.it.state(n, what), all[n][what]);
            }
        }
        int[] none = {-1, 3, 300, Integer.MAX_VALUE, Integer.MIN_VALUE};
        for (int n : none) {
            Check.refuses("state(" + n + ", 0)", NO_SUCH, () -> game.it.state(n, 0));
            Check.refuses("state(" + n + ", 7)", NO_SUCH, () -> game.it.state(n, 7));
            Check.refuses("next(" + n + ", 0)", NO_SUCH, () -> game.it.next(n, 0));
        }
        int[] bad = {-1, 3, Integer.MAX_VALUE, Integer.MIN_VALUE};
        for (int what : bad) {
            Check.refuses("state(0, " + what + ")", NO_WHAT, () -> game.it.state(0, what));
        }
        Check.due("a role has no move", explored("(role a)(role b)(legal a m)").it.state(0, 2), 0);
        Check.due("no roles", explored("(legal a m)").it.state(0, 2), 0);
        Check.due("one role", explored("(role a)(legal a m)(legal a n)").it.state(0, 2), 2);
        Check.due("four roles", explored("(role a)(role b)(role c)(role d)(legal a m)(legal a n)(legal b m)(legal c m)"
                + "(legal c n)(legal d m)(legal d n)").it.state(0, 2), 8);
    }

    private static void promise16Next() {
        Game game = Game.of(WALK + TREE);
        Check.refuses("next(0, 0) before explore()", NOT_KNOWN, () -> game.it.next(0, 0));
        game.it.explore();
        Check.due("next(0, 2)", game.it.next(0, 2), 3);
        Check.due("next(3, 0) is known before", game.it.next(3, 0), 6);
        int[] none = {-1, 3, 40, Integer.MAX_VALUE, Integer.MIN_VALUE};
        for (int j : none) {
            Check.refuses("next(0, " + j + ")", NO_SUCH, () -> game.it.next(0, j));
        }
        Check.refuses("next(3, 1)", NO_SUCH, () -> game.it.next(3, 1));
        Check.refuses("next of a terminal one", NO_SUCH, () -> game.it.next(4, 0));
        Check.due("to itself", explored("(role a)(role b)(legal a m)(legal b m)").it.next(0, 0), 0);
        Check.refuses("terminal with moves", NO_SUCH,
                () -> explored("(role a)(role b)(legal a m)(legal b m) terminal").it.next(0, 0));
    }

    private static void promise17Value() {
        Game game = Game.of(WALK + TREE);
        Check.refuses("value(0) before explore()", NOT_KNOWN, () -> game.it.value(0));
        game.it.explore();
        // y takes the least of 10 and 80, of 40 and 50, and 40; x the greatest of these
        int[] values = {40, 10, 40, 40, 10, 80, 40, 50};
        for (int n = 0; n < values.length; n++) {
            Check.due("value(" + n + ")", game.it.value(n), values[n]);
        }
        int[] none = {-1, 8, Integer.MAX_VALUE, Integer.MIN_VALUE};
        for (int n : none) {
            Check.refuses("value(" + n + ")", NO_SUCH, () -> game.it.value(n));
            Check.refuses("best(" + n + ")", NO_SUCH, () -> game.it.best(n));
        }
        Check.due("of the first role", explored("(role a)(role b)(goal a 30)(goal b 70) terminal").it.value(0), 30);
        Check.due("goals count where the game ends", explored("(role a)(role b)(goal a 30)(goal b 70)(init p)"
                + "(legal a m)(legal b m)(goal a 7)(<= (next q) (true p))(<= terminal (true q))").it.defect(0), 4);
    }

    private static void promise18Best() {
        Game game = Game.of(WALK + TREE);
        Check.refuses("best(0) before explore()", NOT_KNOWN, () -> game.it.best(0));
        game.it.explore();
        int[] bests = {1, 0, 0, 0, -1, -1, -1, -1};
        for (int n = 0; n < bests.length; n++) {
            Check.due("best(" + n + ")", game.it.best(n), bests[n]);
        }
        Game other = explored(WALK + "(e a b)(e b f)(e b g)(e b h)(e f i)(e f j)(e g i)(e h j)(e h k)"
                + "(l i 60 40)(l j 100 0)(l k 100 0)");
        // 0 a, 1 b, 2 f, 3 g, 4 h, 5 i, 6 j, 7 k; y moves at b, x at f, g and h
        Check.due("no defect", other.it.defect(0), 0);
        int[] values = {60, 60, 100, 60, 100, 60, 100, 100};
        int[] best = {0, 1, 1, 0, 0, -1, -1, -1};
        for (int n = 0; n < best.length; n++) {
            Check.due("value(" + n + ") of the other", other.it.value(n), values[n]);
            Check.due("best(" + n + ") of the other", other.it.best(n), best[n]);
        }
    }

    private static void knownAgain() {
        Game game = explored(WALK + TREE);
        Check.due("a sheet with a fault", game.read("(role"), 1);
        Check.due("the states stay", game.it.value(0), 40);
        Check.due("another sheet", game.read(WALK + "(e a b)(e a c)(l b 0 100)(l c 100 0)"), 0);
        Check.refuses("its states aren't known", NOT_KNOWN, () -> game.it.value(0));
        Check.due("explore()", game.it.explore(), 3);
        Check.due("its value", game.it.value(0), 100);
        Check.due("its best", game.it.best(0), 1);
        Check.refuses("no fourth state", NO_SUCH, () -> game.it.value(3));
    }
}

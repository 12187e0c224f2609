/** Promises 7 to 12, and terms 3 and 4: what holds, and how a game is played. */
final class PlayingTest {
    private static final Class<IllegalStateException> NO_STATE = IllegalStateException.class;
    private static final Class<IndexOutOfBoundsException> NO_SUCH = IndexOutOfBoundsException.class;
    private static final Class<UnsupportedOperationException> TOO_GREAT = UnsupportedOperationException.class;

    /** Two roles choose at once; the state tells what they did, and how often. */
    private static final String CHOICE = "(role x) (role (y 1))\n"
            + "(init (n 0)) (s 0 1) (s 1 2)\n"
            + "(legal x b) (legal x a) (legal (y 1) 3) (legal (y 1) (g 1)) (legal (y 1) (g 1 2))\n"
            + "(legal z b)\n"
            + "(<= (next (did ?r ?m)) (does ?r ?m))\n"
            + "(<= (next (n ?y)) (true (n ?x)) (s ?x ?y))\n"
            + "(<= terminal (true (n 2)))\n"
            + "(<= (goal x 30) (true (did x a))) (<= (goal x 40) (true (did x b)))\n"
            + "(<= (goal (y 1) 070) (true (did x a))) (<= (goal (y 1) 70) (true (did x ?m)))";

    private PlayingTest() {
    }

    public static void main(String[] args) {
        promise7Start();
        promise7Rules();
        promise7Recursion();
        promise8Moves();
        promise9Terminal();
        promise10Goal();
        promise11Play();
        promise11ManyJointMoves();
        promise11Throws();
        promise12Sign();
        promise12Order();
        promise12ManyNames();
        promise12Throws();
        tooGreatState();
        Check.finish("PlayingTest");
    }

    private static String start(String text) {
        Game game = Game.of(text);
        return game.state(game.it.start());
    }

    private static void promise7Start() {
        Game game = Game.of(CHOICE);
        Check.refuses("no state before start()", NO_STATE, () -> game.it.terminal() ? 1 : 0);
        Check.due("start()", game.it.start(), 1);
        Check.due("the state", game.state(1), "(n 0)");
        game.it.play(0);
        Check.due("start() again", game.it.start(), 1);
        Check.due("the state again", game.state(1), "(n 0)");
        Check.due("no init", Game.of("(role a)").it.start(), 0);
        Check.due("init twice", start("(init a) (init a) (<= (init a))"), "a");
    }

    private static void promise7Rules() {
        Check.due("a rule's ways", start("(p a) (p b) (<= (init (f ?x ?y)) (p ?x) (p ?y))"),
                "(f a a), (f a b), (f b a), (f b b)");
        Check.due("distinct", start("(p a) (p b) (<= (init (f ?x ?y)) (p ?x) (p ?y) (distinct ?x ?y))"),
                "(f a b), (f b a)");
        Check.due("distinct of whole terms", start("(p a) (p (g a)) (<= (init ?x) (p ?x) (distinct ?x (g a)))"), "a");
        Check.due("distinct of unlike names", start("(<= (init a) (distinct b c)) (<= (init b) (distinct c c))"), "a");
        Check.due("not", start("(p a) (p b) (q b) (<= (init ?x) (p ?x) (not (q ?x)))"), "a");
        Check.due("not of what is nowhere", start("(<= (init a) (not q)) (<= (init b) (not (r c)))"), "a, b");
        Check.due("layers of not", start("(<= p (not q)) (<= q (not r)) (<= r (not s)) (<= (init p) p)"
                + "(<= (init q) q) (<= (init r) r)"), "p, r");
        Check.due("terms inside", start("(p (f a (g b))) (p (f b (g a))) (p (g a b)) (p f)"
                + "(<= (init ?x) (p (f ?y (g ?x))))"), "a, b");
        Check.due("one variable twice", start("(p a a) (p a b) (<= (init ?x) (p ?x ?x))"), "a");
        Check.due("a variable and its whole", start("(p a (f a)) (p a (f b)) (<= (init ?x) (p ?x (f ?x)))"), "a");
        Check.due("without conditions", start("(<= (init (f a)))"), "(f a)");
        Check.due("words as names of terms", start("(p a) (p (role a)) (p (not_ b)) (<= (init (role ?x)) (p ?x))"
                + "(<= (init (terminal ?x)) (p (role ?x)))"), "(role (not_ b)), (role (role a)), (role a), (terminal a)");
        Check.due("a way through the middle", start("(t a b) (t b c) (t d e) (e z) (<= (init ?z) (t ?x ?y) (t ?y ?w) (e ?z))"),
                "z");
        Check.due("only by the first", start("(p a) (p b) (<= (init c) (p ?x) (distinct ?x b))"), "c");
        Check.due("only by the last", start("(p a) (p b) (<= (init c) (p ?x) (distinct ?x a))"), "c");
        Check.due("only by one that isn't", start("(p a) (p b) (p c) (q a) (q c) (<= (init d) (p ?x) (not (q ?x)))"), "d");
        Check.due("variables that tell nothing", start("(p a) (p b) (<= (init ?z) (p ?x) (p ?y) (p ?z))"), "a, b");
        Check.due("no terms", start("p (<= q p r) (<= (init q) q) (<= (init p) p)"), "p");
        Check.due("no moves, no state", start("(<= p (does ?r ?m)) (<= q (true ?x)) (init a)"), "a");
        Check.due("like names with unlike numbers of parts", start("(p (f a)) (p (f a b)) (p f)"
                + "(<= (init (one ?x)) (p (f ?x))) (<= (init (two ?x)) (p (f ?x ?y)))"), "(one a), (two a)");
    }

    private static void promise7Recursion() {
        String chain = "(e a b) (e b c) (e c d) (<= (r ?x ?y) (e ?x ?y)) (<= (r ?x ?z) (e ?x ?y) (r ?y ?z))";
        Check.due("a chain", start(chain + "(<= (init ?y) (r a ?y))"), "b, c, d");
        Check.due("what can't be reached", start(chain + "(n a) (n b) (n d) (<= (init ?x) (n ?x) (not (r ?x d)))"), "d");
        Check.due("two in turn", start("(s 0 1) (s 1 2) (s 2 3) (s 3 4) (even 0)"
                + "(<= (odd ?y) (s ?x ?y) (even ?x)) (<= (even ?y) (s ?x ?y) (odd ?x)) (<= (init ?x) (even ?x))"),
                "0, 2, 4");
        Check.due("twice in one rule", start("(e a b) (e b c) (e c d) (e d f) (v a) (v b) (v c) (v d) (v f)"
                + "(<= (r ?x ?y) (e ?x ?y)) (<= (r ?x ?z) (v ?y) (r ?x ?y) (r ?y ?z)) (<= (init ?y) (r a ?y))"),
                "b, c, d, f");
        String base = "(e a b) (e b c) (e c d) (v a) (v b) (v c) (v d) (<= (r ?x ?y) (e ?x ?y)) (<= (init ?y) (r a ?y))";
        Check.due("first of the conditions", start(base + "(<= (r ?x ?z) (r ?y ?z) (e ?x ?y))"), "b, c, d");
        Check.due("first and last", start(base + "(<= (r ?x ?z) (r ?x ?y) (v ?y) (r ?y ?z))"), "b, c, d");
        Check.due("the other way round", start(base + "(<= (r ?x ?z) (r ?y ?z) (v ?y) (r ?x ?y))"), "b, c, d");
        Check.due("one atom for two conditions", start("(p a) (v a) (v (g a)) (v (g (g a))) (<= (init ?x) (p ?x))"
                + "(<= (p (g ?x)) (p ?x) (p ?x) (v ?x))"), "(g (g (g a))), (g (g a)), (g a), a");
        Check.due("one atom for two unlike conditions", start("(p a b) (v a) (v b) (v c) (<= (init (f ?x ?y)) (p ?x ?y))"
                + "(<= (p c ?x) (p ?x ?y) (p ?z b) (v ?x) (v ?y) (v ?z))"), "(f a b), (f c a), (f c c)");
        Check.due("by two in turn, the one last", start("(n 0) (n 1) (n 2) (s 0 1) (s 1 2) (u 0) (<= (init (f ?x)) (w ?x))"
                + "(<= (w ?x) (u ?x) (n ?x)) (<= (u ?y) (w ?x) (s ?x ?y)) (<= (init (g ?x)) (u ?x))"),
                "(f 0), (f 1), (f 2), (g 0), (g 1), (g 2)");
        Check.due("a round", start("(e a b) (e b a) (<= (r ?x ?y) (e ?x ?y)) (<= (r ?x ?z) (e ?x ?y) (r ?y ?z))"
                + "(<= (init (f ?x ?y)) (r ?x ?y))"), "(f a a), (f a b), (f b a), (f b b)");
        Check.due("nothing of nothing", start("(<= p q) (<= q p) (<= (init a) p) (init b)"), "b");
    }

    private static void promise8Moves() {
        Game game = Game.of(CHOICE);
        Check.refuses("moves(0) without a state", NO_STATE, () -> game.it.moves(0));
        Check.refuses("moves(-1) without a state", NO_STATE, () -> game.it.moves(-1));
        game.it.start();
        Check.due("moves(0)", game.it.moves(0), 2);
        Check.due("moves(1)", game.it.moves(1), 3);
        int[] bad = {-1, 2, 3, 4, Integer.MAX_VALUE, Integer.MIN_VALUE};
        for (int r : bad) {
            Check.refuses("moves(" + r + ")", NO_SUCH, () -> game.it.moves(r));
            Check.refuses("goal(" + r + ")", NO_SUCH, () -> game.it.goal(r));
        }
        Game five = Game.of("(role a)(role b)(role c)(role d)(role e)(legal e m)(legal d m)(<= (legal ?r k) (role ?r))");
        five.it.start();
        Check.due("the fourth role", five.it.moves(3), 2);
        Check.refuses("the fifth role", NO_SUCH, () -> five.it.moves(4));
        Game without = Game.of("(legal a b)");
        without.it.start();
        Check.refuses("without roles", NO_SUCH, () -> without.it.moves(0));
    }

    private static void promise9Terminal() {
        Game game = Game.of(CHOICE);
        Check.refuses("terminal() without a state", NO_STATE, () -> game.it.terminal() ? 1 : 0);
        game.it.start();
        Check.due("terminal() at first", game.it.terminal() ? 1 : 0, 0);
        game.it.play(0);
        Check.due("terminal() then", game.it.terminal() ? 1 : 0, 0);
        game.it.play(5);
        Check.due("terminal() at last", game.it.terminal() ? 1 : 0, 1);
        Game always = Game.of("terminal");
        always.it.start();
        Check.due("terminal() always", always.it.terminal() ? 1 : 0, 1);
    }

    private static void promise10Goal() {
        Game game = Game.of("(role a) (role b) (role c) (role d) (init x)"
                + "(goal a 0) (goal a 00) (goal a 000) (goal a 101) (goal a 1000) (goal a 0001) (goal a x)"
                + "(goal a (1 2)) (goal b 100) (goal b 99) (goal b 100) (goal c 0050) (goal c 999)"
                + "(<= (goal d 7) (true x)) (<= (goal d 8) (true y)) (goal e 3)");
        Check.refuses("goal(0) without a state", NO_STATE, () -> game.it.goal(0));
        game.it.start();
        Check.due("one number in several forms", game.it.goal(0), 0);
        Check.due("several", game.it.goal(1), -2);
        Check.due("none that counts", game.it.goal(2), -1);
        Check.due("one by a rule", game.it.goal(3), 7);
        Game choice = Game.of(CHOICE);
        choice.it.start();
        Check.due("none at first", choice.it.goal(0), -1);
        choice.it.play(0);
        Check.due("then one", choice.it.goal(0), 30);
        Check.due("and one of two forms", choice.it.goal(1), 70);
        Game edge = Game.of("(role a) (goal a 100)");
        edge.it.start();
        Check.due("100", edge.it.goal(0), 100);
    }

    private static void promise11Play() {
        Game game = Game.of(CHOICE);
        String[] second = {"(g 1 2)", "(g 1)", "3"};
        for (int j = 0; j < 6; j++) {
            game.it.start();
            Check.due("play(" + j + ")", game.it.play(j), 3);
            Check.due("the state by " + j, game.state(3), "(did (y 1) " + second[j % 3] + "), (did x "
                    + (j < 3 ? "a" : "b") + "), (n 1)");
        }
        Check.due("play() on", game.it.play(1), 3);
        Check.due("play() from a terminal state", game.it.play(1), 2);
        Check.due("what came of it", game.state(2), "(did (y 1) (g 1)), (did x a)");
        Game none = Game.of("(role a) (init p) (legal a m)");
        none.it.start();
        Check.due("to nothing", none.it.play(0), 0);
        Check.due("from nothing to nothing", none.it.play(0), 0);
        Game like = Game.of("(role a) (init p) (legal a m) (<= (next ?x) (true ?x)) (<= (next ?m) (does ?r ?m))");
        like.it.start();
        Check.due("one term more", like.it.play(0), 2);
        Check.due("terms count once", like.it.play(0), 2);
        Game other = Game.of("(role a)(role b)(role a)(legal a m)(legal b n)(legal b m)(<= (next ?m) (does b ?m))");
        other.it.start();
        Check.due("the second role's first", other.it.play(0), 1);
        Check.due("is", other.state(1), "m");
        Check.refuses("there is no third", NO_SUCH, () -> other.it.play(2));
    }

    private static void promise11ManyJointMoves() {
        Game game = Game.of("(role a)(role b)(role c)(role d)(n 0)(n 1)(n 2)(n 3)(n 4)(n 5)"
                + "(<= (legal ?r (t ?x ?y ?z)) (role ?r) (n ?x) (n ?y) (n ?z))"
                + "(<= (next (did ?r ?m)) (does ?r ?m))");
        game.it.start();
        Check.due("216 moves each", game.it.moves(3), 216);
        Check.due("play of the greatest int", game.it.play(Integer.MAX_VALUE), 4);
        Check.due("its moves", game.state(4),
                "(did a (t 5 5 3)), (did b (t 0 3 2)), (did c (t 0 0 5)), (did d (t 5 3 1))");
        Check.refuses("the least int", NO_SUCH, () -> game.it.play(Integer.MIN_VALUE));
    }

    private static void promise11Throws() {
        Game game = Game.of(CHOICE);
        Check.refuses("play(0) without a state", NO_STATE, () -> game.it.play(0));
        Check.refuses("play(-1) without a state", NO_STATE, () -> game.it.play(-1));
        game.it.start();
        int[] bad = {-1, 6, 7, Integer.MAX_VALUE, Integer.MIN_VALUE};
        for (int j : bad) {
            Check.refuses("play(" + j + ")", NO_SUCH, () -> game.it.play(j));
        }
        Check.due("the state stays", game.state(1), "(n 0)");
        Game stuck = Game.of("(role a) (role b) (legal a m)");
        stuck.it.start();
        Check.refuses("a role without moves", NO_SUCH, () -> stuck.it.play(0));
        Game without = Game.of("(init a) (legal a b)");
        without.it.start();
        Check.refuses("without roles", NO_SUCH, () -> without.it.play(0));
    }

    private static void promise12Sign() {
        Game game = Game.of(CHOICE);
        Check.due("role 0", game.text(5, 0), "x");
        Check.due("role 1", game.text(5, 1), "(y 1)");
        Check.due("far behind the end", game.it.sign(5, 1, Integer.MAX_VALUE), 0);
        Check.due("right behind the end", game.it.sign(5, 1, 5), 0);
        Check.due("the last sign", game.it.sign(5, 1, 4), ')');
        game.it.start();
        Check.due("the term", game.text(0, 0), "(n 0)");
        Check.due("the first role's moves", game.moves(0), "a, b");
        Check.due("the second role's moves", game.moves(1), "(g 1 2), (g 1), 3");
        game.it.play(5);
        Check.due("the terms then", game.state(3), "(did (y 1) 3), (did x b), (n 1)");
        Game deep = Game.of("(init (a (bb (ccc d e) f) (g (h i j k l))))");
        deep.it.start();
        Check.due("a deep one", game.text(5, 0) + deep.text(0, 0), "x(a (bb (ccc d e) f) (g (h i j k l)))");
        Game four = Game.of("(role a)(role b)(role c)(role d)(legal d (m n))(legal d m)");
        four.it.start();
        Check.due("what = 4", four.text(4, 0), "(m n)");
    }

    private static void promise12Order() {
        StringBuilder text = new StringBuilder();
        String[] sorted = {"(a (a a a))", "(a (a a) (b a))", "(a (a a))", "(a (b c))", "(a a a a a)", "(a a)",
            "(a b b)", "(a b c)", "(a b)", "(a0 b)", "(a_ b)", "(ab c)", "1", "10", "2", "_", "a", "a0", "a_", "ab", "b"};
        for (int i = 0; i < sorted.length; i++) {
            String term = sorted[(i * 8 + 5) % sorted.length];
            text.append("(init ").append(term).append(")(legal r ").append(term).append(")\n");
        }
        Game game = Game.of("(role r)" + text);
        Check.due("start()", game.it.start(), sorted.length);
        Check.due("the order of terms", game.state(sorted.length), String.join(", ", sorted));
        Check.due("the order of moves", game.moves(0), String.join(", ", sorted));
    }

    /** So many names that some must meet in any table. */
    private static void promise12ManyNames() {
        String signs = "abcdefghijklmnopqrstuvwxyz0123456789_";
        for (int round = 0; round < 3; round++) {
            StringBuilder text = new StringBuilder();
            String[] terms = new String[40];
            int name = 37 * 37 - 1 - 400 * round;
            for (int i = 0; i < 40; i++) {
                StringBuilder term = new StringBuilder("(").append(signs.charAt(i % 37));
                for (int p = 0; p < 4; p++) {
                    term.append(" (").append(signs.charAt(name / 37)).append(signs.charAt(name % 37));
                    term.append(' ').append(signs.charAt(name % 37)).append(signs.charAt(name / 37)).append(')');
                    name -= 2;
                }
                terms[i] = term.append(")").toString();
                text.append("(init ").append(terms[i]).append(")");
            }
            java.util.Arrays.sort(terms);
            // The text takes so many calls that an object has only enough of them left for two terms.
            for (int i = 0; i < 40; i += 2) {
                Game game = Game.of(text.toString());
                Check.due("start() of many names", game.it.start(), 40);
                Check.due("many names", game.text(0, i) + game.text(0, i + 1), terms[i] + terms[i + 1]);
            }
        }
        StringBuilder text = new StringBuilder("(<= (init ?x) (p ?x ?y) (q ?y ?x))");
        for (int turn = 0; turn < 2; turn++) {
            for (int i = 0; i < 25; i++) {
                String one = fourNames(signs, 8 * i + 700);
                String two = fourNames(signs, 8 * i + 704);
                text.append(turn == 0 ? "(p " + one + " " + two + ")" : "(q " + two + " " + one + ")");
            }
        }
        Check.due("names that come again are the same", Game.of(text.toString()).it.start(), 25);
    }

    private static String fourNames(String signs, int first) {
        StringBuilder text = new StringBuilder("(f");
        for (int name = first; name < first + 4; name++) {
            text.append(' ').append(signs.charAt(name / 37)).append(signs.charAt(name % 37));
        }
        return text.append(")").toString();
    }

    private static void promise12Throws() {
        Game game = Game.of(CHOICE);
        int[] bad = {-1, 6, Integer.MAX_VALUE, Integer.MIN_VALUE};
        for (int what : bad) {
            Check.refuses("sign(" + what + ", 0, 0)", IllegalArgumentException.class, () -> game.it.sign(what, 0, 0));
            Check.refuses("sign(" + what + ", -1, -1)", IllegalArgumentException.class,
                    () -> game.it.sign(what, -1, -1));
        }
        for (int what = 0; what < 5; what++) {
            int w = what;
            Check.refuses("sign(" + w + ", -1, -1) without a state", NO_STATE, () -> game.it.sign(w, -1, -1));
        }
        int[] noRole = {-1, 2, 4, Integer.MAX_VALUE};
        for (int i : noRole) {
            Check.refuses("sign(5, " + i + ", 0)", NO_SUCH, () -> game.it.sign(5, i, 0));
        }
        Check.refuses("sign(5, 0, -1)", NO_SUCH, () -> game.it.sign(5, 0, -1));
        game.it.start();
        int[][] none = {{0, 1, 0}, {0, -1, 0}, {0, 0, -1}, {0, Integer.MAX_VALUE, 0}, {1, 2, 0}, {1, -1, 0},
            {1, 0, -1}, {2, 3, 0}, {2, Integer.MAX_VALUE, 5}, {3, 0, 0}, {4, 0, 0}, {5, 2, 0}};
        for (int[] a : none) {
            Check.refuses("sign(" + a[0] + ", " + a[1] + ", " + a[2] + ")", NO_SUCH,
                    () -> game.it.sign(a[0], a[1], a[2]));
        }
    }

    /** A state of which too much holds: what doesn't ask for that goes on, all else is refused. */
    private static void tooGreatState() {
        String digits = "(n 0)(n 1)(n 2)(n 3)(n 4)(n 5)(n 6)(n 7)(n 8)(n 9)";
        Game game = Game.of("(role a) (init go) (legal a m)" + digits
                + "(<= (t ?x ?y ?z) (true go) (n ?x) (n ?y) (n ?z))");
        Check.due("start() is not too great", game.it.start(), 1);
        for (int times = 0; times < 2; times++) {
            Check.refuses("moves(0)", TOO_GREAT, () -> game.it.moves(0));
            Check.refuses("terminal()", TOO_GREAT, () -> game.it.terminal() ? 1 : 0);
            Check.refuses("goal(0)", TOO_GREAT, () -> game.it.goal(0));
            Check.refuses("play(0)", TOO_GREAT, () -> game.it.play(0));
            Check.refuses("play(99), too great a number", TOO_GREAT, () -> game.it.play(99));
            Check.refuses("sign(1, 0, 0)", TOO_GREAT, () -> game.it.sign(1, 0, 0));
            Check.refuses("sign(1, 99, 0)", TOO_GREAT, () -> game.it.sign(1, 99, 0));
            Check.refuses("explore()", TOO_GREAT, () -> game.it.explore());
            Check.refuses("moves(1), no such role", NO_SUCH, () -> game.it.moves(1));
            Check.refuses("goal(-1), no such role", NO_SUCH, () -> game.it.goal(-1));
            Check.refuses("play(-1)", NO_SUCH, () -> game.it.play(-1));
            Check.refuses("sign(1, -1, 0)", NO_SUCH, () -> game.it.sign(1, -1, 0));
            Check.refuses("sign(1, 0, -1)", NO_SUCH, () -> game.it.sign(1, 0, -1));
            Check.refuses("sign(2, 0, 0), no such role", NO_SUCH, () -> game.it.sign(2, 0, 0));
            Check.refuses("sign(0, 1, 0)", NO_SUCH, () -> game.it.sign(0, 1, 0));
            Check.due("the state stays", game.text(0, 0), "go");
            Check.due("the role stays", game.text(5, 0), "a");
            Check.refuses("the states aren't known", NO_STATE, () -> game.it.defect(0));
        }
        Game none = Game.of("(init go)" + digits + "(<= (t ?x ?y ?z) (true go) (n ?x) (n ?y) (n ?z))");
        none.it.start();
        Check.refuses("play(0) where there are no roles", NO_SUCH, () -> none.it.play(0));
        Game next = Game.of("(role a) (init go) (legal a m) (legal a n)" + digits
                + "(<= (t ?x ?y ?z) (does a m) (n ?x) (n ?y) (n ?z)) (<= (next ?m) (does a ?m))");
        next.it.start();
        Check.due("moves(0)", next.it.moves(0), 2);
        Check.refuses("play(0)", TOO_GREAT, () -> next.it.play(0));
        Check.refuses("play(2)", NO_SUCH, () -> next.it.play(2));
        Check.due("the state stays", next.state(1), "go");
        Check.due("the moves stay", next.moves(0), "m, n");
        Check.due("play(1)", next.it.play(1), 1);
        Check.due("the state then", next.state(1), "n");
        Game all = Game.of("(role a) (init go)" + digits + "(<= (t ?x ?y ?z) (n ?x) (n ?y) (n ?z))");
        for (int times = 0; times < 2; times++) {
            Check.refuses("start() of too much", TOO_GREAT, () -> all.it.start());
            Check.refuses("explore() of too much", TOO_GREAT, () -> all.it.explore());
        }
        Check.refuses("no state came of it", NO_STATE, () -> all.it.moves(0));
        Game first = Game.of("(role a) (init go)" + digits
                + "(<= (t ?x ?y ?z) (n ?x) (n ?y) (n ?z) (not (true go)))");
        Check.refuses("too much of no state", TOO_GREAT, () -> first.it.start());
        Check.refuses("too much of no state for all", TOO_GREAT, () -> first.it.explore());
        Check.due("the roles are there", all.it.sheet(1), 1);
    }
}

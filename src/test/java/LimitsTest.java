/** What is too great: each limit of terms 3 to 5 is met exactly, and passed by the least. */
final class LimitsTest {
    private static final Class<UnsupportedOperationException> TOO_GREAT = UnsupportedOperationException.class;

    private LimitsTest() {
    }

    public static void main(String[] args) {
        atoms();
        atomsOfState();
        signsOfTerms();
        longRoles();
        longTermsThatHoldNowhere();
        room();
        roomOfNothing();
        roomOfRecursion();
        termsOfState();
        numberOfStates();
        jointMoves();
        work();
        rowsGrow();
        madeAgainBehindGrowing();
        Check.finish("LimitsTest");
    }

    private static String set(String name, int many) {
        StringBuilder text = new StringBuilder();
        for (int i = 0; i < many; i++) {
            text.append("(").append(name).append(' ').append(i).append(")");
        }
        return text.append('\n').toString();
    }

    /** 9 + 729 + 3 * 81 = 981 atoms. */
    private static final String MANY = set("n", 9) + "(<= (t ?x ?y ?z) (n ?x) (n ?y) (n ?z))"
            + "(<= (a ?x ?y) (n ?x) (n ?y))(<= (b ?x ?y) (n ?x) (n ?y))(<= (c ?x ?y) (n ?x) (n ?y))";

    private static void atoms() {
        Check.due("1000 atoms", Game.of(MANY + set("k", 19)).it.start(), 0);
        Check.refuses("1001 atoms", TOO_GREAT, () -> Game.of(MANY + set("k", 20)).it.start());
        Check.due("1000 with roles and init", Game.of(MANY + set("k", 10) + set("role", 5) + set("init", 4))
                .it.start(), 4);
        Check.refuses("1001 with roles and init", TOO_GREAT,
                () -> Game.of(MANY + set("k", 10) + set("role", 5) + set("init", 5)).it.start());
        Check.refuses("1001 by names", TOO_GREAT, () -> Game.of(MANY + set("k", 19) + " p").it.start());
        Check.due("one atom by many rules", Game.of(MANY + set("k", 19) + "(k 0) (k 1)").it.start(), 0);
        Check.refuses("1000 and one by a rule with not", TOO_GREAT,
                () -> Game.of(MANY + set("k", 19) + "(<= last (not (k 99)))").it.start());
    }

    private static void atomsOfState() {
        // 981 + 15 and init, role, legal are 999; with true 1000; with does, too, 1001
        Game game = Game.of(MANY + set("k", 15) + "(init i)(role r)(legal r m)");
        Check.due("999 of no state", game.it.start(), 1);
        Check.due("1000 of the state", game.it.moves(0), 1);
        Check.refuses("1001 of the state and moves", TOO_GREAT, () -> game.it.play(0));
        Check.refuses("explore() meets it", TOO_GREAT, () -> game.it.explore());
        Game less = Game.of(MANY + set("k", 14) + "(init i)(role r)(legal r m)");
        less.it.start();
        Check.due("1000 of the state and moves", less.it.play(0), 0);
        Check.due("explore() of these", less.it.explore(), 2);
        Game more = Game.of(MANY + set("k", 16) + "(init i)(role r)(legal r m)");
        Check.due("1000 of no state", more.it.start(), 1);
        Check.refuses("1001 of the state", TOO_GREAT, () -> more.it.moves(0));
    }

    private static void signsOfTerms() {
        String of48 = "(f abcdefghijklmnop abcdefghijklmnop 1234567890)";
        String of49 = "(f abcdefghijklmnop abcdefghijklmnop 12345678901)";
        String deep49 = "(ffff (gg (h (i (j (k (l (m no__p)))) p)) 1 234))";
        Check.due("48 signs are", of48.length(), 48);
        Check.due("49 signs are", deep49.length(), 49);
        String[] sheets = {"(init %s)", "(init a)(p %s)", "(init a)(p a b c %s)", "(init a)(legal a %s)",
            "(init a)(q a)(<= (p %s) (q a))"};
        for (String sheet : sheets) {
            Check.due("48 signs in " + sheet, Game.of(sheet.replace("%s", of48)).it.start(), 1);
            Check.refuses("49 signs in " + sheet, TOO_GREAT, () -> Game.of(sheet.replace("%s", of49)).it.start());
            Check.refuses("49 deep signs in " + sheet, TOO_GREAT,
                    () -> Game.of(sheet.replace("%s", deep49)).it.start());
        }
        // 4 signs more by each play: (f (f .. a)) has 1 + 4 n
        Game grow = Game.of("(role r)(init a)(legal r m)(<= (next (f ?x)) (true ?x))");
        grow.it.start();
        for (int i = 0; i < 11; i++) {
            Check.due("play " + i, grow.it.play(0), 1);
        }
        Check.due("45 signs", grow.it.sign(0, 0, 44), ')');
        Check.refuses("49 signs come of it", TOO_GREAT, () -> grow.it.moves(0));
        Check.refuses("so it ends", TOO_GREAT, () -> grow.it.play(0));
        Check.due("the state stays", grow.text(0, 0), "(f (f (f (f (f (f (f (f (f (f (f a)))))))))))");
        Check.refuses("explore() ends there", TOO_GREAT, () -> grow.it.explore());
    }

    private static void longRoles() {
        String role = "(f abcdefghijklmnop abcdefghijklmnop 12345678901)";
        Game game = Game.of("(role " + role + ")");
        Check.due("a long role is one", game.it.sheet(1), 1);
        Check.due("its text", game.text(5, 0), role);
        Check.refuses("but too great", TOO_GREAT, () -> game.it.start());
        Check.due("its text still", game.text(5, 0), role);
    }

    private static void longTermsThatHoldNowhere() {
        String of60 = "(f abcdefghijklmnop abcdefghijklmnop abcdefghijklmnop 1234567)";
        Check.due("not", Game.of("(<= (init a) (not (p " + of60 + ")))").it.start(), 1);
        Check.due("distinct", Game.of("(<= (init a) (distinct b " + of60 + "))").it.start(), 1);
        Check.due("a positive one", Game.of("(p a)(<= (init a) (p " + of60 + "))").it.start(), 0);
        Check.due("made of variables", Game.of("(q (f abcdefghijklmnop abcdefghijklmnop))"
                + "(<= (init a) (q ?x) (not (p (g ?x ?x))) (distinct (g ?x ?x) (h ?x ?x)))").it.start(), 1);
        Check.due("a rule that brings nothing", Game.of("(<= (p " + of60 + ") q) (init a)").it.start(), 1);
    }

    private static void room() {
        // 100 * 100 * 30, without a way to fulfil it
        String pairs = set("n", 10) + "(<= (t ?x ?y) (n ?x) (n ?y))";
        String rule = "(<= v (t a a) (t ?x ?y) (e ?z)) (init a)";
        Check.due("room of 300000", Game.of(pairs + set("e", 30) + rule).it.start(), 1);
        Check.refuses("room of 310000", TOO_GREAT, () -> Game.of(pairs + set("e", 31) + rule).it.start());
        Check.due("300000 with a way for each", Game.of(pairs + set("e", 30)
                + "(<= (v ?z) (t ?x ?y) (t ?u ?w) (e ?z)) (<= (init ?x) (v ?x))").it.start(), 30);
        // 491 * 13 * 47 = 300001: 49 * 10 pairs and one
        String primes = set("e", 25) + "(<= (h (g ?x)) (e ?x))(<= (h (g a ?x)) (e ?x) (distinct ?x 0) (distinct ?x 1)"
                + "(distinct ?x 2)) (<= (k ?x) (h ?x)) (k 0) (k 1)" + set("n", 10)
                + "(<= (t ?x ?y) (k ?x) (n ?y))" + "(<= (m 13 ?x) (n ?x)) (m 13 a) (m 13 b) (m 13 c)";
        Check.refuses("room of 300001", TOO_GREAT,
                () -> Game.of(primes + "(t z z) (<= v (t a a) (m ?x ?x) (h ?z)) (init a)").it.start());
        Check.due("room of 299390", Game.of(primes + "(<= v (t a a) (m ?x ?x) (h ?z)) (init a)").it.start(), 1);
        Check.refuses("eight times 100", TOO_GREAT, () -> Game.of(pairs
                + "(<= v (t a a)(t a a)(t a a)(t a a)(t a a)(t a a)(t a a)(t a a))").it.start());
        // the product of these overflows a long, and would be 0 in an int
        String powers = set("n", 8) + "(<= (t ?x ?y ?z) (n ?x) (n ?y) (n ?z))";
        Check.refuses("eight times 512", TOO_GREAT, () -> Game.of(powers
                + "(<= v (t a a a)(t a a a)(t a a a)(t a a a)(t a a a)(t a a a)(t a a a)(t a a a))").it.start());
    }

    private static void roomOfNothing() {
        String pairs = set("n", 10) + "(<= (t ?x ?y) (n ?x) (n ?y))(init a)";
        String much = "(t ?x ?y)(t ?x ?y)(t ?x ?y)";
        Check.due("a condition without atoms", Game.of(pairs + "(<= v " + much + " (none ?x))").it.start(), 1);
        Check.due("another way round", Game.of(pairs + "(<= v (true ?x) " + much + ")").it.start(), 1);
        Game game = Game.of(pairs + "(<= v (true ?x) " + much + ") (role r)");
        game.it.start();
        Check.refuses("with a state", TOO_GREAT, () -> game.it.moves(0));
        Check.due("negative ones don't count", Game.of(pairs + "(<= (v ?x) (t ?x ?y)(t ?x ?y)"
                + "(not (t a ?x))(not (t b ?x))(distinct ?x ?y))").it.start(), 1);
    }

    private static void roomOfRecursion() {
        // r comes to 100 atoms only at the end: 100 * 100 * 30, then * 31
        String chain = set("n", 10) + "(s 0 1)(s 1 2)(s 2 3)(s 3 4)(s 4 5)(s 5 6)(s 6 7)(s 7 8)(s 8 9)(r 0 0)"
                + "(<= (r ?y ?z) (s ?x ?y) (n ?z) (r ?x ?z))(<= (r ?z ?y) (s ?x ?y) (n ?z) (r ?z ?x))(init a)";
        Check.due("300000", Game.of(chain + set("e", 30)
                + "(<= (r a a) (r b b) (r c c) (e z))").it.start(), 1);
        Check.refuses("310000", TOO_GREAT, () -> Game.of(chain + set("e", 31)
                + "(<= (r a a) (r b b) (r c c) (e z))").it.start());
    }

    private static void termsOfState() {
        String sixty = "(n 0)(n 1)(n 2)(n 3)(n 4)(n 5)(m 0)(m 1)(m 2)(m 3)(m 4)(m 5)(m 6)(m 7)(m 8)(m 9)";
        String init = "(<= (init (f ?x ?y)) (n ?x) (m ?y))";
        Check.due("60 terms", Game.of(sixty + init).it.start(), 60);
        Check.refuses("61 terms", TOO_GREAT, () -> Game.of(sixty + init + "(init a)").it.start());
        Check.refuses("61 terms of all", TOO_GREAT, () -> Game.of(sixty + init + "(init a)").it.explore());
        Game game = Game.of(sixty + "(init a)(role r)(legal r m)(legal r n)(<= (next (f ?x ?y)) (n ?x) (m ?y))"
                + "(<= (next n) (does r n))");
        game.it.start();
        Check.refuses("61 terms come", TOO_GREAT, () -> game.it.play(1));
        Check.due("the state stays", game.state(1), "a");
        Check.due("60 terms come", game.it.play(0), 60);
        Check.due("the last of them", game.text(0, 59), "(f 5 9)");
        Check.due("and again", game.it.play(0), 60);
        Check.refuses("explore()", TOO_GREAT, () -> game.it.explore());
        Check.due("61 that aren't of a state", Game.of(sixty + "(<= (p (f ?x ?y)) (n ?x) (m ?y)) (p a)").it.start(), 0);
    }

    /** A count in two places, 20 times 15, up to its end. */
    private static String count(String more) {
        StringBuilder text = new StringBuilder("(role x)(role y)(legal x m)(legal y m)(goal x 50)(goal y 50)");
        for (int i = 0; i < 19; i++) {
            text.append("(s ").append(i).append(' ').append(i + 1).append(")");
        }
        text.append("(init (c 0 0))(<= (next (c ?v ?y)) (true (c ?x ?y)) (s ?x ?v))");
        text.append("(<= (next (c 0 ?w)) (true (c 19 ?y)) (s ?y ?w))");
        return text.append(more).toString();
    }

    private static void numberOfStates() {
        Game game = Game.of(count("(<= terminal (true (c 19 14)))"));
        Check.due("300 states", game.it.explore(), 300);
        Check.due("no defect", game.it.defect(0), 0);
        Check.due("the last but one leads to the last", game.it.next(298, 0), 299);
        Check.due("the value", game.it.value(0), 50);
        Check.due("the best", game.it.best(298), 0);
        Check.due("none at the end", game.it.best(299), -1);
        Game more = Game.of(count("(<= terminal (true (c 0 15)))"));
        Check.refuses("301 states", TOO_GREAT, () -> more.it.explore());
        Check.refuses("they aren't known", IllegalStateException.class, () -> more.it.defect(0));
        Check.refuses("301 states again", TOO_GREAT, () -> more.it.explore());
        Check.due("but there is a game", more.it.start(), 1);
        Check.due("that goes on", more.it.play(0), 1);
        Check.refuses("301 states from a state", TOO_GREAT, () -> more.it.explore());
        Check.due("which stays", more.state(1), "(c 1 0)");
        Game round = Game.of(count("(<= (next (c 0 0)) (true (c 19 14)))")
                .replace("(true (c 19 ?y)) (s ?y ?w)", "(true (c 19 ?y)) (s ?y ?w) (distinct ?y 14)"));
        Check.due("300 states in a round", round.it.explore(), 300);
        Check.due("it turns round", round.it.defect(0), 6);
        Check.due("from the first on", round.it.defect(1), 0);
    }

    private static void jointMoves() {
        String text = "(role x)(role y)(<= (legal x ?n) (a ?n))(<= (legal y ?n) (b ?n))(<= (next (d ?m)) (does y ?m))"
                + "(init i)(<= terminal (true (d ?m)))";
        Game game = Game.of(text + set("a", 8) + set("b", 5));
        Check.due("40 joint moves", game.it.explore(), 6);
        Check.due("are told", game.it.state(0, 2), 40);
        Check.due("the last leads on", game.it.next(0, 39), 5);
        Check.refuses("behind the last", IndexOutOfBoundsException.class, () -> game.it.next(0, 40));
        Check.refuses("41 joint moves", TOO_GREAT, () -> Game.of(text + set("a", 41) + set("b", 1)).it.explore());
        Check.refuses("42 joint moves", TOO_GREAT, () -> Game.of(text + set("a", 6) + set("b", 7)).it.explore());
        Check.due("41 moves and none", Game.of(text + set("a", 41)).it.explore(), 1);
        Game end = Game.of(text + set("a", 20) + set("b", 20) + "terminal");
        Check.due("400 at the end", end.it.explore(), 1);
        Check.due("don't count", end.it.state(0, 2), 0);
        Check.due("but may be played", end.it.start() + end.it.play(399), 2);
        Check.due("one role, 40 moves", Game.of("(role x)(<= (legal x ?n) (a ?n))" + set("a", 40)).it.explore(), 1);
        Check.refuses("one role, 41 moves", TOO_GREAT,
                () -> Game.of("(role x)(<= (legal x ?n) (a ?n))" + set("a", 41)).it.explore());
    }

    /**
     * Eleven states in a line are 22 workings (of no state, of 11, of 10 moves). 21 of them have a
     * state: 10 + 1 + 1 + 1 + 1 by the rules with true. All other rules make up 1363623 each time:
     * 22 * 1363623 + 21 * 14 = 30000000.
     */
    private static void work() {
        StringBuilder text = new StringBuilder("(role x)(role y)(legal x m)(legal y m)(init (n 0))\n");
        for (int i = 0; i < 10; i++) {
            text.append("(s ").append(i).append(' ').append(i + 1).append(")");
        }
        text.append("(<=(next(n ?y))(true(n ?x))(s ?x ?y))(<=terminal(true(n 10)))(<=(goal x 50)(true(n 10)))");
        text.append("(<=(goal y 50)(true(n 10)))(<=u(true(n 0)))\n");
        int[] powers = {8, 0, 6, 3, 6, 13};
        for (int power = 0; power < powers.length; power++) {
            for (int i = 0; i < powers[power]; i++) {
                text.append("(<=w");
                for (int k = 0; k < power; k++) {
                    text.append("(s a a)");
                }
                text.append(")");
            }
        }
        Game game = Game.of(text.toString());
        Check.due("work of 30000000", game.it.explore(), 11);
        Check.due("the value", game.it.value(0), 50);
        Check.due("the same sheet again", game.it.read(), 0);
        Check.due("work counts for each sheet anew", game.it.explore(), 11);
        Game more = Game.of(text + "(<=x terminal)");
        Check.refuses("work of 30000001", TOO_GREAT, () -> more.it.explore());
        Check.refuses("they aren't known", IllegalStateException.class, () -> more.it.value(0));
        Check.due("start() has no such limit", more.it.start(), 1);
        Check.due("nor play()", more.it.play(0), 1);
        Check.refuses("work of 30000022", TOO_GREAT, () -> Game.of(text + "x").it.explore());
        Check.due("a rule without room", Game.of(text + "(<=x z)").it.explore(), 11);
        Check.refuses("by moves alone", TOO_GREAT, () -> Game.of(text + "(<=x(does x m))").it.explore());
    }

    /** Some 5000 terms, of which 1250 are made once more: these must be the same ones. */
    private static void madeAgainBehindGrowing() {
        StringBuilder head = new StringBuilder();
        for (String name : new String[] {"a", "b", "c", "d"}) {
            head.append(" (").append(name).append(" (f (g (h (i ").append(name).append(" ?x ?y)))))");
        }
        Game game = Game.of(set("n", 10) + set("m", 25) + "(<= (p" + head + ") (n ?x) (m ?y)) (<= (last ?d) (p ?a ?b ?c ?d))"
                + "(<= (q (d (f (g (h (i d ?x ?y)))))) (n ?x) (m ?y) (last (d ?z)))"
                + "(<= (init bad) (q ?d) (not (last ?d))) (<= (init good) (last ?d) (q ?d))");
        Check.due("start()", game.it.start(), 1);
        Check.due("all that is made again is the same", game.state(1), "good");
    }

    /** More states than the rows have place for at first; all of them come again. */
    private static void rowsGrow() {
        StringBuilder text = new StringBuilder("(role x)(role y)(legal x m)(legal y m)");
        text.append(set("k", 8)).append("(init (c a b))");
        for (int i = 0; i < 16; i++) {
            text.append("(s ").append(i).append(' ').append(i + 1).append(")");
        }
        text.append("(<= (next (c ?v ?y)) (true (c ?x ?y)) (s ?x ?v))(<= (next (c 0 0)) (true (c a b)))");
        text.append("(<= (next (c 0 ?w)) (true (c 16 ?y)) (s ?y ?w))(<= (next (c 0 0)) (true (c 16 16)))");
        text.append("(<= (next (p (q ?x ?k) (r ?y ?k) ?k)) (true (c ?x ?y)) (k ?k))");
        text.append("(<= (next (p (q ?k ?x) (u ?y) (v ?x ?y))) (true (c ?x ?y)) (k ?k))");
        Game game = Game.of(text.toString());
        Check.due("start()", game.it.start(), 1);
        Check.due("play(0)", game.it.play(0), 17);
        String before = game.text(0, 0) + game.text(0, 7) + game.text(0, 16);
        // (c a b), (c 0 0) behind it, 288 others of the count, and (c 0 0) behind (c 16 16)
        Check.due("explore()", game.it.explore(), 291);
        Check.due("the state stays", game.text(0, 0) + game.text(0, 7) + game.text(0, 16), before);
        Check.due("all have 17 terms", game.it.state(290, 0), 17);
        Check.due("the last leads back", game.it.next(290, 0), 2);
        Check.due("there it turns round", game.it.defect(0), 6);
        Check.due("from the third state on", game.it.defect(1), 2);
        for (int i = 0; i < 40; i++) {
            Check.due("play(0) on", game.it.play(0), 17);
        }
        Check.due("the first term", game.text(0, 0), "(c 6 2)");
        Check.due("the last term", game.text(0, 16), "(p (q 7 5) (u 2) (v 5 2))");
    }
}

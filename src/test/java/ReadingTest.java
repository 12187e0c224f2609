/** Promises 4 to 6, and terms 1 and 2: how a text is read, and its faults. */
final class ReadingTest {
    private static final String NEST = "(f (f (f (f (f (f (f (f (f (f ";

    private ReadingTest() {
    }

    public static void main(String[] args) {
        promise4Read();
        promise4Keeps();
        promise4Often();
        promise5Fault();
        promise6Sheet();
        notASheet();
        names();
        depths();
        manyOfAKind();
        tokens();
        numbersOfTerms();
        words();
        dependence();
        safety();
        strata();
        recursion();
        orderOfFaults();
        Check.finish("ReadingTest");
    }

    /** Reads a text on a new object: the fault, and where it is. */
    private static void reads(String text, int fault, int place) {
        Game game = new Game();
        Check.due("read() of " + text, game.read(text), fault);
        Check.due("fault() of " + text, game.it.fault(), place);
    }

    /** The text is no sheet, and the sign ^ in it tells the place. */
    private static void noSheet(String marked) {
        reads(marked.replace("^", ""), 1, marked.indexOf('^'));
    }

    private static void well(String text) {
        reads(text, 0, -1);
    }

    private static void promise4Read() {
        Game game = new Game();
        Check.due("read()", game.read("(role a) (init b)"), 0);
        Check.due("the sheet has two rules", game.it.sheet(0), 2);
        Check.due("the text stays", game.it.put(0), 17);
        game.append("(init c)");
        Check.due("the sheet is not the text", game.it.sheet(0), 2);
        Check.due("read() again", game.it.read(), 0);
        Check.due("now it has three", game.it.sheet(0), 3);
        Check.due("start()", game.it.start(), 2);
        Check.due("explore()", game.it.explore(), 1);
        Check.due("read() once more", game.it.read(), 0);
        Check.refuses("there is no state", IllegalStateException.class, () -> game.it.moves(0));
        Check.refuses("the states aren't known", IllegalStateException.class, () -> game.it.defect(0));
    }

    private static void promise4Keeps() {
        Game game = Game.of("(role a) (init b) (init (c d)) (legal a m) (<= terminal (true b))");
        game.it.start();
        game.it.explore();
        String[] bad = {"", "(role", "(role a b)", "(true a)", "(<= (init a) (true a))", "(p ?x)",
            "(<= p (not p))", "(<= (p (f ?x)) (p ?x))"};
        int[] kinds = {1, 1, 2, 3, 4, 5, 6, 7};
        for (int i = 0; i < bad.length; i++) {
            Check.due("read() of " + bad[i], game.read(bad[i]), kinds[i]);
            Check.due("the rules stay", game.it.sheet(0), 5);
            Check.due("the state stays", game.state(2), "(c d), b");
            Check.due("the moves stay", game.moves(0), "m");
            Check.due("the role stays", game.text(5, 0), "a");
            Check.due("the states stay", game.it.state(0, 1), 1);
            Check.due("start() goes on by the sheet before", game.it.start(), 2);
        }
        Check.due("a new one comes", game.read("(role b)"), 0);
        Check.due("with its own rules", game.it.sheet(0), 1);
        Check.due("and its own state", game.it.start(), 0);
    }

    /** One object reads many sheets, each with relations, groups and roles of its own. */
    private static void promise4Often() {
        Game game = new Game();
        for (int i = 0; i < 16; i++) {
            if (i % 4 == 0) {
                // no object is used for more than 512 calls
                game = new Game();
            }
            StringBuilder text = new StringBuilder("(role r").append(i).append(")(p0 a)(init z)");
            int many = i % 4 == 2 ? 12 : 4 + i % 7;
            for (int k = 1; k < many; k++) {
                text.append(i % 2 == 0 ? "(<= (p" + k + " ?x) (p" + (k - 1) + " ?x))"
                        : "(<= (p" + k + " (f ?x)) (p" + k / 2 + " ?x) (not (p" + (k - 1) + " (g ?x))))");
            }
            text.append("(<= (init ?x) (p").append(many - 1).append(" ?x))(<= (legal ?r ?x) (role ?r) (true ?x))");
            Check.due("read() of sheet " + i, game.read(text.toString()), 0);
            Check.due("rules of sheet " + i, game.it.sheet(0), many + 4);
            Check.due("start() of sheet " + i, game.it.start(), 2);
            Check.due("moves of sheet " + i, game.it.moves(0), 2);
            Check.due("role of sheet " + i, game.text(5, 0), "r" + i);
            game.append("(<= p (not p))");
            Check.due("a fault behind sheet " + i, game.it.read(), 6);
            Check.due("explore() of sheet " + i, game.it.explore(), 2);
        }
    }

    private static void promise5Fault() {
        Game game = new Game();
        Check.due("fault() before any", game.it.fault(), RuleSheets.NONE);
        game.read("p q )");
        Check.due("fault() is a place", game.it.fault(), 4);
        game.write("(p a)");
        Check.due("fault() stays until the next read()", game.it.fault(), 4);
        game.it.read();
        Check.due("fault() of none", game.it.fault(), RuleSheets.NONE);
        game.read("(p a) (q b) (p a b)");
        Check.due("fault() is a rule", game.it.fault(), 2);
        game.read("(<= (goal a 1) (does a b))");
        Check.due("fault() is which of four", game.it.fault(), 2);
    }

    private static void promise6Sheet() {
        Game game = Game.of("p");
        Check.due("rules of one", game.it.sheet(0), 1);
        Check.due("no roles", game.it.sheet(1), 0);
        int[] bad = {-1, 2, Integer.MAX_VALUE, Integer.MIN_VALUE};
        for (int what : bad) {
            Check.refuses("sheet(" + what + ")", IllegalArgumentException.class, () -> game.it.sheet(what));
        }
        game.read("(role a)(role b)(p q)(role a)(role (f a))(<= (role (f b)))");
        Check.due("like roles count once", game.it.sheet(1), 4);
        Check.due("all rules count", game.it.sheet(0), 6);
        game.read("(role a)(role b)(role c)(role d)(role e)");
        Check.due("at most four roles", game.it.sheet(1), 4);
        Check.due("the first four", game.text(5, 3), "d");
    }

    private static void notASheet() {
        String[] all = {"^", " \n ; a comment^", "^)", "^?x", "^<= p", "(^)", "(^(p a))", "(p^)", "(p a b c d ^e)",
            "(p a^", "p (^", "(^?x a)", "(<=^", "(<= ^)", "(<= ^?x)", "(<= p ^?x)", "(<= p q^", "(<= p (^))",
            "(<= p (^?x))", "(<= p (^<= q))", "(<= p (not^))", "(<= p (not ^?x))", "(<= p (not q ^r))",
            "(<= p (not (^not q)))", "(<= p (not ^not))", "(<= p (not (^distinct a b)))",
            "(<= p (distinct^))", "(<= p (distinct a^))", "(<= p (distinct a b ^c))",
            "(<= p (distinct (^not a) b))", "(<= p (distinct a ^not))", "(^not p)", "(^distinct a b)", "^not",
            "^distinct", "p ^not", "(p ^not)", "(p (^not a))", "(p (^distinct a b))", "(p a ^distinct)",
            "(<= ^not)", "(<= (^not p))", "(<= (^distinct a b))", "(<= p ^not)", "(<= p ^distinct)",
            "(<= p q ^not (r a))", "(<= p q ^distinct a b)", "(<= p (q a) ^not r)", "(<= p (q (f ^<=)))", "(p a) ^) q", "(p (f^))", "(p (f a b c d ^(g h)))", "(<= p ^<= q)",
            "(<= p (q a) ^? )", "p ^A", "p ^= q", "p ^<q", "p ^< = q", "(p ^'a)", "(p ^?)", "(p ^? x)", "(p ^?A)",
            "(p ^??x)", "p ; ( A \n ^-", "^~", "(p a).^".replace(".^", "^.")};
        for (String marked : all) {
            noSheet(marked);
        }
        well("p");
        well("(p a)");
        well("(<= p)");
        well("(<= (p a b c d))");
        well("(<= p (not q) (distinct a b) q)");
        Game cut = new Game();
        cut.write("(<= p)");
        cut.it.end(2);
        Check.due("read() of (< , where = stood behind it", cut.it.read(), 1);
        Check.due("its place", cut.it.fault(), 1);
        well("(<= p (q ?not ?distinct))");
        well("(p (f a b c d) (role x))");
    }

    private static void names() {
        well("abcdefghijklmno1");
        well("(<= p (q ?abcdefghijklmno_))");
        noSheet("^abcdefghijklmno12");
        noSheet("(p a ^abcdefghijklmno_2 b)");
        noSheet("(<= p (q ^?abcdefghijklmno12))");
        noSheet("(<= p (^abcdefghijklmnopq a))");
        well("0 1_ _ a0");
    }

    private static void depths() {
        String nine = "(f (f (f (f (f (f (f (f (f a)))))))))";
        String eight = nine.substring(3, nine.length() - 1);
        String seven = eight.substring(3, eight.length() - 1);
        well("(p " + nine + ")");
        noSheet("(p " + NEST.substring(0, 27) + "^(f a");
        well("(<= (p " + eight + "))");
        noSheet("(<= (p " + NEST.substring(0, 24) + "^(f a");
        well("(<= p (q " + eight + "))");
        noSheet("(<= p (q " + NEST.substring(0, 24) + "^(");
        well("(<= p (not (q " + seven + ")))");
        noSheet("(<= p (not (q " + NEST.substring(0, 21) + "^(f a");
        well("(<= p (distinct " + eight + " a))");
        noSheet("(<= p (distinct a " + NEST.substring(0, 24) + "^(f a");
    }

    private static void manyOfAKind() {
        well("(<= p a b c d e f g h)");
        noSheet("(<= p a b c d e f g h ^i)");
        noSheet("(<= p a b c d e f g h ^(i j))");
        noSheet("(<= p a b (not c) d (distinct e f) f g h ^(not i))");
        well("(<= p (q ?a ?b ?c ?d) (q ?e ?f ?g ?h) (q ?a ?b ?h ?h))");
        noSheet("(<= p (q ?a ?b ?c ?d) (q ?e ?f ?g ?h) (q ?a ?b ^?i ?j))");
        noSheet("(<= (p ?a ?b ?c ?d) (q ?e ?f ?g ?h) (distinct ?a (f ^?a1)))");
        well("(<= p (q ?a ?b ?c ?d) (q ?e ?f ?g ?h)) (<= p (q ?i ?j ?k ?l) (q ?m ?n ?o ?p))");
        StringBuilder rules = new StringBuilder();
        for (int i = 0; i < 60; i++) {
            rules.append(i % 2 == 0 ? "p" : "(q a)").append(' ');
        }
        well(rules.toString());
        noSheet(rules + "^p");
        noSheet(rules + "^(q a)");
        noSheet(rules + "; \n ^)");
        noSheet(rules + "^A");
        noSheet("(^(" + "(".repeat(1998));
        noSheet("^)" + ")".repeat(1999));
        noSheet("p?".repeat(1000).replaceFirst("\\?", "^?"));
    }

    private static void tokens() {
        Game game = new Game();
        String[] texts = {"a(b c)", "a;b\nc", "(<=a)b", "(p a?x)(p ?x?y)", "(p a?x)", "a\nb c", "(<=(p a?x)(q?x))",
            ";a\n;b(\nc;)", "(p(f a)(f b))(p c d)", "a;; b ; c\nd"};
        int[] faults = {0, 0, 0, 5, 5, 0, 0, 0, 0, 0};
        int[] rules = {2, 2, 2, 0, 0, 3, 1, 1, 2, 2};
        for (int i = 0; i < texts.length; i++) {
            Check.due("read() of " + texts[i], game.read(texts[i]), faults[i]);
            if (faults[i] == 0) {
                Check.due("rules of " + texts[i], game.it.sheet(0), rules[i]);
            }
        }
    }

    private static void numbersOfTerms() {
        reads("p (p a)", 2, 1);
        reads("(p a) q (<= q (p a)) (<= q (p a b))", 2, 3);
        reads("(<= r (q a)) (<= r (not (q a b)))", 2, 1);
        reads("(<= (p a) (p a b))", 2, 0);
        reads("(<= q (p a) (not p))", 2, 0);
        String[] wrong = {"role", "(role a b)", "init", "(init a b)", "(true a b)", "true", "next", "(next a b)",
            "(does a)", "(does a b c)", "does", "(legal a)", "(legal a b c)", "(goal a)", "(goal a b c)",
            "(terminal a)"};
        for (String atom : wrong) {
            reads(atom, 2, 0);
            reads("q (<= q " + atom + ")", 2, 1);
            reads("q q (<= q (not " + atom + "))", 2, 2);
        }
        well("(p (q a)) (r (q a b) q) (q a b c)");
        well("(p role (init a b) (terminal x))");
        well("(<= p (distinct a b)) (<= q (distinct (f a) b))");
    }

    private static void words() {
        reads("p (true a)", 3, 1);
        reads("(<= (does a b) p)", 3, 0);
        reads("p (<= (role a) p)", 3, 1);
        reads("(<= (role a) (not p))", 3, 0);
        reads("(<= (role a) (distinct a b))", 3, 0);
        reads("(role ?x)", 3, 0);
        reads("(role a) (<= (role (f ?x)))", 3, 1);
        reads("p (<= p (init a))", 3, 1);
        reads("(<= p (next a))", 3, 0);
        reads("(<= p (not (init a)))", 3, 0);
        reads("p p (<= p p (not (next a)))", 3, 2);
        well("(<= (role a))");
        well("(<= p (role a) (legal a b) (goal a b) terminal)");
    }

    private static void dependence() {
        reads("(<= (init a) (true a))", 4, 0);
        reads("(<= (init a) (not (does a b)))", 4, 0);
        reads("(<= (init a) p) (<= p q) (<= q (not (true a)))", 4, 0);
        reads("(<= (legal a b) (does a b))", 4, 1);
        reads("(<= (legal a b) p) (<= p (does a b))", 4, 1);
        reads("(<= (goal a b) (not p)) (<= p (does a b))", 4, 2);
        reads("(<= terminal p) (<= p (q a)) (<= (q a) (does a b))", 4, 3);
        reads("(<= terminal (does a b)) (<= (goal a b) (does a b))", 4, 2);
        reads("(<= terminal (does a b)) (<= (legal a b) terminal)", 4, 1);
        reads("(<= (init a) (legal a b)) (<= (legal a b) (does a b))", 4, 0);
        well("(<= (next a) (does a b)) (<= (legal a b) (true a)) (<= (goal a b) (true c)) (<= terminal (true d))");
        well("(<= (init a) p) (<= q p) (<= q (true a)) (<= (legal a b) q)");
    }

    private static void safety() {
        reads("(p ?x)", 5, 0);
        reads("p (<= (q (f ?x)))", 5, 1);
        reads("(<= (q ?x) (not (p ?x)))", 5, 0);
        reads("(<= q (p ?y) (not (p (f ?x))))", 5, 0);
        reads("(<= q (p ?y) (distinct ?x a))", 5, 0);
        reads("(<= q (distinct a (f ?x)))", 5, 0);
        reads("(<= (q ?x ?y) (p ?x))", 5, 0);
        well("(<= (q ?x ?y) (distinct ?x ?y) (not (p ?x)) (p ?y) (p (f (f ?x))))");
        well("(<= q (p ?x))");
    }

    private static void strata() {
        reads("(<= p (not p))", 6, 0);
        reads("(<= p (not q)) (<= q p)", 6, 0);
        reads("(<= q p) (<= p (not q))", 6, 1);
        reads("(<= q r) (<= r p) r (<= p r (not q))", 6, 3);
        reads("(<= (p a) (not (p b)))", 6, 0);
        reads("(<= p (not q)) (<= q (not p))", 6, 0);
        well("(<= p (not q)) (<= q (not r)) (<= r (not s))");
        well("(<= p p) (<= q (not p)) (<= q q)");
        well("(<= (next a) (not (true a))) (<= (legal r a) (not (true a)))");
    }

    private static void recursion() {
        reads("(<= (p (f ?x)) (p ?x))", 7, 0);
        reads("(<= (p ?x) (p (f ?x)))", 7, 0);
        reads("(<= (p ?x) (p (f ?x)) (q ?x))", 7, 0);
        reads("(<= (p ?x) (p ?y) (p ?x))", 7, 0);
        reads("(<= (p a) (p ?x))", 7, 0);
        reads("(<= (p ?x) (r ?x)) (<= (r (f ?x)) (p ?x))", 7, 1);
        reads("(<= (p ?x ?z) (p ?x ?y) (p ?y ?z))", 7, 0);
        reads("(<= (p ?x) (p ?x) (r (f ?x))) (<= (r ?x) (p ?x))", 7, 0);
        reads("(<= (p (f ?x)) (p ?x) (not (q ?x)) (distinct ?x a))", 7, 0);
        reads("(<= (p (f ?x)) (p ?x) (q (g ?x)))", 7, 0);
        reads("(<= (p ?x a) (p ?x (f ?y)) (q ?y))", 7, 0);
        well("(<= (p ?x) (p ?x))");
        well("(<= (p a) (p b))");
        well("(<= (p ?x ?y) (p ?y ?x))");
        well("(<= (p (f ?x)) (p ?x) (q ?x))");
        well("(<= (p ?x) (p (f ?x)) (q (f ?x)))");
        well("(<= (p (f ?x) ?y) (p (f ?x) a) (q ?y))");
        well("(<= (p ?x ?z) (q ?x ?y) (p ?y ?z))");
        well("(<= (p ?x) (r ?x)) (<= (r (f ?x)) (p ?x) (true ?x))");
    }

    private static void orderOfFaults() {
        String seven = "(<= (a7 (f ?x)) (a7 ?x)) ";
        String six = "(<= a6 (not a6)) ";
        String five = "(a5 ?x) ";
        String four = "(<= terminal (does a b)) ";
        String three = "(true a) ";
        String two = "(role a b) ";
        reads(seven + six + five + four + three + two + ")", 1, (seven + six + five + four + three + two).length());
        reads(seven + six + five + four + three + two, 2, 5);
        reads(seven + six + five + four + three, 3, 4);
        reads(seven + six + five + four, 4, 3);
        reads(seven + six + five, 5, 2);
        reads(seven + six, 6, 1);
        reads(seven, 7, 0);
    }
}

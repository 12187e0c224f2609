/**
 * The edges of terms 2 (the faults of a text) and of promises 4 to 6. Above each test stands the
 * sentence of the document that it belongs to.
 */
final class EdgeFaultTest {
    private static final Class<IllegalStateException> NO_SHEET = IllegalStateException.class;
    private static final Class<IllegalArgumentException> NO_WHAT = IllegalArgumentException.class;

    /** A sheet for each fault that has this one and no other, in the order of the faults. */
    private static final String[] FAULTY = {"(role a", "(role a b)", "(true a)", "(<= (init a) (true a))", "(p ?x)",
        "(<= p (not p))", "(<= (p (f ?x)) (p ?x))"};

    private EdgeFaultTest() {
    }

    public static void main(String[] args) {
        firstOfTwo();
        cantCome();
        tooLong();
        textEnd();
        ownNumbers();
        numbersBefore();
        numbersInOneRule();
        numbersOfAtomsOnly();
        headsOfTrueAndDoes();
        headsOfRole();
        conditionsOfInitAndNext();
        dependsOnDoesOrTrue();
        dependsOnConditions();
        dependsOnAll();
        firstOfFour();
        safeHead();
        safeNegative();
        safeDistinct();
        safePositive();
        strataOwn();
        strataDepends();
        recursionOwn();
        recursionDepends();
        recursionTerms();
        recursionHeads();
        recursionOthers();
        theFirstFault();
        readsWell();
        readKeepsAtFault();
        readForgets();
        readForgetsFaults();
        textStays();
        faultOfLatest();
        sheetCounts();
        sheetRefused();
        Check.finish("EdgeFaultTest");
    }

    private static void reads(String text, int fault, int place) {
        Check.due("read() of " + text, Game.reading(text), fault + " at " + place);
    }

    private static void well(String text) {
        reads(text, 0, -1);
    }

    private static void bad(String marked) {
        reads(marked.replace("^", ""), 1, marked.indexOf('^'));
    }

    /** Terms 2, fault 1: "the place of the first token [...] that can't come there". */
    private static void firstOfTwo() {
        bad("(p a) ^) ) A");
        bad("(p ^A) )");
        bad("(p^) A");
        bad("p ^not ?");
        bad("p ^? not");
        bad("p ^abcdefghijklmnopq not )");
        bad("(p a b c d ^e f g");
        bad("(true a b) (q ?x) (p^)");
    }

    /** Terms 2, fault 1: "(or sign that begins none [...])", wherever it stands. */
    private static void cantCome() {
        for (String sign : new String[] {"A", "?", "<", "=", "~", "!", "-", "\"", "/", ":"}) {
            for (String marked : new String[] {"^S", " \n^S", "(^S", "(p ^S", "(p a^S", "(p a)^S", "(<=^S", "(<= p^S)",
                "(<= p (not^S", "(<= p (distinct a^S", "p ;\n ^S", "(p (f a)^S"}) {
                bad(marked.replace("S", sign) + " ");
            }
        }
    }

    /** Terms 2, fault 1: "or name that is too long; of a variable its ?". */
    private static void tooLong() {
        String name = "abcdefghijklmnopq";
        bad("p ^" + name);
        bad("(^" + name + " a)");
        bad("(p (f ^" + name + "))");
        bad("(p ^?" + name + ")");
        bad("(<= p (q ?x ^?" + name + "))");
        bad("p ^?" + name);
    }

    /** Terms 2, fault 1: "the text's end is a token, too, whose place is the number of all signs". */
    private static void textEnd() {
        bad("^");
        bad("   ^");
        bad(";^");
        bad("; a \n^");
        for (String open : new String[] {"(", "(p", "(p a", "(p (f", "(p (f a)", "(<=", "(<= p", "(<= (p a)", "(<= p q",
            "(<= p (not", "(<= p (not q", "(<= p (not q)", "(<= p (distinct", "(<= p (distinct a",
            "(<= p (distinct a b", "p q (r ?x"}) {
            bad(open + "^");
            bad(open + "  \n ^");
            bad(open + " ; )\n^");
            bad(open + " ;)^");
        }
    }

    /** Terms 2, fault 2: "or that isn't of its own: role, init, true, next 1; does, legal, goal 2; terminal none". */
    private static void ownNumbers() {
        String[] names = {"role", "init", "true", "next", "does", "legal", "goal", "terminal"};
        int[] numbers = {1, 1, 1, 1, 2, 2, 2, 0};
        for (int i = 0; i < names.length; i++) {
            for (int many = 0; many <= 4; many++) {
                String atom = many == 0 ? names[i] : "(" + names[i] + " a".repeat(many) + ")";
                boolean own = many == numbers[i];
                for (String rule : new String[] {"(<= p ATOM)", "(<= p (not ATOM))", "ATOM", "(<= ATOM)", "(<= ATOM q)"}) {
                    String told = Game.reading("z " + rule.replace("ATOM", atom));
                    Check.due(atom + " in " + rule, told.equals("2 at 1") ? 1 : 0, own ? 0 : 1);
                }
            }
        }
    }

    /** Terms 2, fault 2: "the first rule (its number) with an atom [...] whose relation had another number of terms before". */
    private static void numbersBefore() {
        reads("p q (p a)", 2, 2);
        reads("(p a) q (p a b) p", 2, 2);
        reads("(p a) p", 2, 1);
        reads("(p a b c d) (p a b c)", 2, 1);
        reads("(p a) (p b) (<= q (p c)) (<= q (not (p a b)))", 2, 3);
        reads("(<= q (not (p a b))) (<= q (p a))", 2, 1);
        reads("(<= (p a) (not (q a b))) (q a)", 2, 1);
        well("(p a) (p b) (<= (p c) (p d) (not (q e)))");
    }

    /** Terms 2, fault 2: "its head first, then its conditions in order": the number may change in one rule. */
    private static void numbersInOneRule() {
        reads("(<= p (p a))", 2, 0);
        reads("(<= p (not (p a)))", 2, 0);
        reads("(<= q p (p a))", 2, 0);
        reads("(<= q (not p) (p a))", 2, 0);
        reads("(<= q (p a) (not p))", 2, 0);
        reads("(<= q r r r r r r p (p a))", 2, 0);
        reads("z (<= q (p a) (distinct a b) (not p))", 2, 1);
    }

    /** Terms 2, fault 2: "an atom", not a term, and "distinct" is no relation. */
    private static void numbersOfAtomsOnly() {
        well("(p (p a b)) (q p (p a b c)) (p (p a b c d))");
        well("(p role (init a b)) (p terminal (does a)) (p (terminal a b) next)");
        well("(<= p (distinct a b)) (<= q (distinct (f a) (f a b)))");
    }

    /** Terms 2, fault 3: "the first rule whose head is of true or does". */
    private static void headsOfTrueAndDoes() {
        reads("p (true a)", 3, 1);
        reads("p q (does a b)", 3, 2);
        reads("(<= (true a))", 3, 0);
        reads("(<= (does a b) p)", 3, 0);
        well("(<= p (true a) (does b c) (not (true b)) (not (does a c)))");
    }

    /** Terms 2, fault 3: "or of role, with conditions or a variable (a rule with <= and no conditions is well)". */
    private static void headsOfRole() {
        well("(role a) (<= (role b)) (<= (role (f a)))");
        reads("(role a) (<= (role b) p)", 3, 1);
        reads("(<= (role b) (not p))", 3, 0);
        reads("(<= (role b) (distinct a b))", 3, 0);
        reads("(<= (role b) (role a))", 3, 0);
        reads("(role ?x)", 3, 0);
        reads("(role (f (g ?x)))", 3, 0);
        reads("(<= (role ?x))", 3, 0);
        reads("(<= (role ?x) (p ?x))", 3, 0);
        well("(<= p (role ?x) (not (role a)))");
    }

    /** Terms 2, fault 3: "or that has a condition of init or next", a negative one, too. */
    private static void conditionsOfInitAndNext() {
        reads("p (<= p (init a))", 3, 1);
        reads("p (<= p (not (init a)))", 3, 1);
        reads("p (<= p (next a))", 3, 1);
        reads("p (<= p q (distinct a b) (not (next a)))", 3, 1);
        reads("(<= (init a) (init a))", 3, 0);
        reads("(<= (next a) (next a))", 3, 0);
        well("(init a) (next a) (<= (next b) (true a)) (<= (init b) p)");
        well("(<= p (legal a b) (goal a b) terminal (role a) (true a))");
    }

    /** Terms 2, fault 4: "init depends on true or does (0); legal (1), goal (2), terminal (3) on does". */
    private static void dependsOnDoesOrTrue() {
        reads("(<= (init a) (true a))", 4, 0);
        reads("(<= (init a) (does a b))", 4, 0);
        reads("(<= (legal a b) (does a b))", 4, 1);
        reads("(<= (goal a 1) (does a b))", 4, 2);
        reads("(<= terminal (does a b))", 4, 3);
        well("(<= (legal a b) (true a)) (<= (goal a 1) (true a)) (<= terminal (true a))");
        well("(<= (next a) (does a b) (true a)) (<= p (does a b)) (<= q (true a))");
    }

    /** Terms 2, fault 4: "DEPENDS on those of the conditions of all rules of which it is the head's". */
    private static void dependsOnConditions() {
        reads("(init a) (<= (init b) p) (<= (init a) q r (true a))", 4, 0);
        reads("(<= (legal a b) (not (does a b)))", 4, 1);
        reads("(legal a b) (<= (legal a b) p) (<= (legal a b) (distinct a b) (not (does a b)))", 4, 1);
        reads("(<= terminal p p p p p p p (not (does a b)))", 4, 3);
    }

    /** Terms 2, fault 4: "and on all that these depend on", however far that is. */
    private static void dependsOnAll() {
        reads("(<= (init a) p) (<= p q) (<= q (true a))", 4, 0);
        reads("(<= q (true a)) (<= p q) (<= (init a) p)", 4, 0);
        reads("(<= (goal a 1) (not p)) (<= p (not q)) (<= q (does a b))", 4, 2);
        reads("(<= terminal (legal a b)) (<= (legal a b) (goal a b)) (<= (goal a b) p) (<= p (does a b))", 4, 1);
        reads("(<= terminal p) (<= p q) (<= q p) (<= q (does a b))", 4, 3);
        StringBuilder far = new StringBuilder("(<= (init a) p58)");
        for (int i = 58; i > 0; i--) {
            far.append("(<= p").append(i).append(" p").append(i - 1).append(")");
        }
        well(far + "p0");
        reads(far + "(<= p0 (true a))", 4, 0);
        well("(<= p (does a b)) (<= q p) (<= (next a) q) (<= (legal a b) r) r");
    }

    /** Terms 2, fault 4: "the first of these four is told", not that of the first rule. */
    private static void firstOfFour() {
        String[] all = {"(<= (init a) (true a))", "(<= (legal a b) (does a b))", "(<= (goal a 1) (does a b))",
            "(<= terminal (does a b))"};
        for (int first = 0; first < 4; first++) {
            StringBuilder text = new StringBuilder("z ");
            for (int i = 3; i >= first; i--) {
                text.append(all[i]);
            }
            reads(text.toString(), 4, first);
        }
        reads("(<= (init a) (legal a b)) (<= (legal a b) (does a b))", 4, 0);
    }

    /** Terms 2, fault 5: "a variable in its head [...] that is in no positive condition". */
    private static void safeHead() {
        reads("(p ?x)", 5, 0);
        reads("z (p (f (g a ?x)))", 5, 1);
        reads("(<= (p ?x))", 5, 0);
        reads("(<= (p ?x ?y) (q ?x))", 5, 0);
        reads("(<= (p ?x) (q ?x)) (<= (p ?x) (q ?y))", 5, 1);
        well("(<= (p ?x ?y) (q (f ?y)) (r a ?x))");
    }

    /** Terms 2, fault 5: "in a negative condition". */
    private static void safeNegative() {
        reads("(<= p (not (q ?x)))", 5, 0);
        reads("(<= p (q ?y) (not (r ?y (f ?x))))", 5, 0);
        reads("(<= (p ?x) (not (q ?x)))", 5, 0);
        reads("(<= p (not (q ?x)) (not (r ?x)))", 5, 0);
        well("(<= p (not (q ?x)) (r ?x))");
    }

    /** Terms 2, fault 5: "or in distinct". */
    private static void safeDistinct() {
        reads("(<= p (distinct ?x a))", 5, 0);
        reads("(<= p (distinct a ?x))", 5, 0);
        reads("(<= p (q ?y) (distinct ?y (f ?x)))", 5, 0);
        reads("(<= p (distinct ?x ?x) (not (q a)))", 5, 0);
        well("(<= p (distinct ?x a) (r ?x))");
    }

    /** Terms 2, fault 5: "positive condition": any one of the rule, behind or ahead, and variables of it alone are well. */
    private static void safePositive() {
        well("(<= p (q ?x))");
        well("(<= (p ?x) (not (r ?x)) (distinct ?x a) a b c d e (q (f (f ?x))))");
        well("(<= (p ?x) (true ?x)) (<= (p ?m) (does ?r ?m)) (<= (p ?r) (role ?r))");
        reads("(<= (p ?x) (q ?x)) (<= (q ?x) (p ?y))", 5, 1);
    }

    /** Terms 2, fault 6: "the first rule with a negative condition whose relation is that of the head". */
    private static void strataOwn() {
        reads("(<= p (not p))", 6, 0);
        reads("z (<= (p ?x) (q ?x) (not (p a)))", 6, 1);
        reads("(<= p (not q)) (<= q z) (<= q (not q))", 6, 2);
        reads("(<= (next a) (not p)) (<= p (not p))", 6, 1);
        well("(<= p (not q)) (<= q (not r)) (<= r (not s))");
        well("(<= p p) (<= q q (not p))");
    }

    /** Terms 2, fault 6: "or depends on that", through any conditions. */
    private static void strataDepends() {
        reads("(<= p (not q)) (<= q p)", 6, 0);
        reads("(<= q p) (<= p (not q))", 6, 1);
        reads("(<= q (not p)) (<= p (not q))", 6, 0);
        reads("(<= p (not q)) (<= q r) (<= r s) (<= s p)", 6, 0);
        reads("(<= q r) (<= r s) (<= s (not q))", 6, 2);
        well("(<= p (not q)) (<= r p) (<= q s)");
        well("(<= p (not (true a)) (not (does a b))) (<= (next ?x) (true ?x) (not p))");
    }

    /** Terms 2, fault 7: "the first rule with a positive condition whose relation is that of the head". */
    private static void recursionOwn() {
        reads("(<= (p (f ?x)) (p ?x))", 7, 0);
        reads("z (<= (p a) (p ?x))", 7, 1);
        reads("(<= (q ?x) (p ?x)) (<= (p ?x ) (p (g ?x)) (r ?x))", 7, 1);
        well("(<= (q (f ?x)) (p ?x))");
        well("(<= (q a) (p ?x))");
    }

    /** Terms 2, fault 7: "or depends on that". */
    private static void recursionDepends() {
        reads("(<= (p (f ?x)) (q ?x)) (<= (q ?x) (p ?x))", 7, 0);
        reads("(<= (q ?x) (p ?x)) (<= (p (f ?x)) (q ?x))", 7, 1);
        reads("(<= (q ?x) (r ?x)) (<= (r ?x) (p ?x)) (<= (p (f ?x)) (q ?x))", 7, 2);
        reads("(<= (q a) (z ?x) (not (r ?x))) (<= (r ?x) (p ?x)) (<= (p (f ?x)) (s ?x)) (<= (s ?x) (p ?x))", 7, 2);
        well("(<= (p (f ?x)) (q ?x)) (<= (q ?x) (r ?x))");
    }

    /** Terms 2, fault 7: "and that has a term with a variable in it": any one of its terms; others don't matter. */
    private static void recursionTerms() {
        reads("(<= (p ?x b) (p ?x ?y))", 7, 0);
        reads("(<= (p ?y b) (p ?x ?y))", 7, 0);
        reads("(<= (p ?x b) (p ?x (f a ?y)))", 7, 0);
        well("(<= (p b b) (p a (f a)))");
        well("(<= (p ?x (f a)) (p ?x (g b)))");
        reads("(<= (p ?x) (p ?x) (p (f ?x)))", 7, 0);
    }

    /** Terms 2, fault 7: "the whole term is neither one of the head's terms": one in any place, but not a part of one. */
    private static void recursionHeads() {
        well("(<= (p ?x ?y) (p ?y ?x))");
        well("(<= (p ?x ?x) (p ?x ?x))");
        well("(<= (p (f ?x) (g ?x a)) (p (g ?x a) (f ?x)))");
        reads("(<= (p (f ?x)) (p ?x))", 7, 0);
        reads("(<= (p ?x) (p (f ?x)))", 7, 0);
        reads("(<= (p (f ?x ?y)) (p (f ?y ?x)))", 7, 0);
        reads("(<= (p (f ?x a)) (p (f ?x)))", 7, 0);
        reads("(<= (p (f ?x a)) (p (g ?x a)))", 7, 0);
        reads("(<= (p (f (g ?x))) (p (f (h ?x))))", 7, 0);
    }

    /** Terms 2, fault 7: "nor one of those of a positive condition [...] whose relation neither is that of the head nor depends on that". */
    private static void recursionOthers() {
        well("(<= (p (f ?x)) (p ?x) (q ?x))");
        well("(<= (p (f ?x)) (q a ?x) (p ?x))");
        well("(<= (p ?x) (p (f ?x)) (q (f ?x)))");
        well("(<= (p (f ?x)) (p ?x) (true ?x))");
        reads("(<= (p (f ?x)) (p ?x) (q (f ?x)))", 7, 0);
        reads("(<= (p (f ?x)) (p ?x) (q (g ?x)))", 7, 0);
        reads("(<= (p (f ?x)) (p ?x) (not (q ?x)))", 7, 0);
        reads("(<= (p (f ?x)) (p ?x) (distinct ?x a))", 7, 0);
        reads("(<= (p (f ?x)) (p ?x) (p ?x))", 7, 0);
        reads("(<= (p (f ?x)) (p ?x) (r ?x)) (<= (r ?x) (p ?x))", 7, 0);
        well("(<= (p (f ?x)) (p ?x) (r ?x)) (<= (r ?x) (s ?x))");
    }

    /** Terms 2: "The first of these that a sheet has", whichever rule it is in. */
    private static void theFirstFault() {
        for (int first = 1; first <= 7; first++) {
            StringBuilder text = new StringBuilder("z1 z2 ");
            for (int i = 7; i >= first; i--) {
                text.append(FAULTY[i - 1].replace("p", "p" + i)).append(' ');
            }
            int rule = 2 + 7 - first;
            reads(text.toString(), first, first == 1 ? text.length() : first == 4 ? 0 : rule);
        }
    }

    /** Promise 4: "0, and it is the sheet, without a state, its states not known". */
    private static void readsWell() {
        Game game = Game.of("(role a) (role b) (init p) (legal a m) (legal b m) terminal (goal a 0) (goal b 100)");
        game.it.start();
        game.it.explore();
        Check.due("its value", game.it.value(0), 0);
        Check.due("the same text again", game.it.read(), 0);
        Check.refuses("no state", NO_SHEET, () -> game.it.moves(0));
        Check.refuses("nor its terms", NO_SHEET, () -> game.it.sign(0, 0, 0));
        Check.refuses("its states aren't known", NO_SHEET, () -> game.it.state(0, 0));
        Check.refuses("nor their defect", NO_SHEET, () -> game.it.defect(0));
        Check.refuses("nor values", NO_SHEET, () -> game.it.value(0));
        Check.due("but the roles are there", game.text(5, 1), "b");
        Check.due("and it starts", game.it.start(), 1);
        Check.due("a sheet of one rule", game.read("p"), 0);
        Check.due("is the sheet", game.it.sheet(0), 1);
        Check.due("without roles", game.it.sheet(1), 0);
    }

    /** Promise 4: "or the fault (the sheet before stays, with its state and states)". */
    private static void readKeepsAtFault() {
        Game game = Game.of("(role a) (role b) (init p) (init (q r)) (legal a m) (legal b m) (<= terminal (true p))"
                + "(goal a 40) (goal b 60)");
        game.it.start();
        game.it.explore();
        for (int kind = 1; kind <= 7; kind++) {
            Check.due("the fault " + kind, game.read(FAULTY[kind - 1]), kind);
            Check.due("the rules stay", game.it.sheet(0), 9);
            Check.due("the roles stay", game.it.sheet(1), 2);
            Check.due("the state stays", game.state(2), "(q r), p");
            Check.due("its end stays", game.it.terminal() ? 1 : 0, 1);
            Check.due("its goal stays", game.it.goal(1), 60);
            Check.due("the states stay", game.it.explore(), 1);
            Check.due("their value stays", game.it.value(0), 40);
        }
        Check.due("start() goes by the sheet before", game.it.start(), 2);
        Game none = new Game();
        for (int kind = 1; kind <= 7; kind++) {
            Check.due("the fault " + kind + " of a new object", none.read(FAULTY[kind - 1]), kind);
            Check.refuses("there is still no sheet", NO_SHEET, () -> none.it.sheet(0));
            Check.refuses("nor anything to start", NO_SHEET, () -> none.it.start());
        }
    }

    /** Promise 4: "it is the sheet": of the one before nothing is left. */
    private static void readForgets() {
        Game game = Game.of("(role a) (p x) (q y) (init i) (<= (r ?x) (true ?x)) (legal a m) terminal");
        game.it.start();
        game.it.terminal();
        Check.due("another sheet", game.read("(role b) (<= (init p) (p x)) (<= (init q) (not (q y))) (<= (init r) (r i))"
                + "(<= (legal b t) terminal)"), 0);
        Check.due("start()", game.it.start(), 1);
        Check.due("what holds is its own", game.state(1), "q");
        Check.due("no moves", game.it.moves(0), 0);
        Check.due("no end", game.it.terminal() ? 1 : 0, 0);
        Check.due("numbers of terms are its own", game.read("(p a b) (q a b c)"), 0);
    }

    /** Promise 4: a text is read as if it were the first; what others had in the same place has no part in it. */
    private static void readForgetsFaults() {
        String[][] both = {{"(<= (init a) p) (<= p (true a))", "(<= (init a) p) (<= p q)"}, {"(p a) p", "p (<= q p)"},
            {"(<= (goal a b) p) (<= p (does a b))", "(<= (goal a b) p) p"}, {"(<= p (q ?x) (not (r ?y)))", "p (<= p (q ?x))"},
            {"(<= p (not q)) (<= q p)", "(<= p (not q)) q"}, {"(<= p a b c d e f g (not p))", "(<= p a b c d e f g h) p"},
            {"(<= (p (f ?x)) (q ?x)) (<= (q ?x) (p ?x))", "(<= (p (f ?x)) (q ?x)) (<= (q ?x) (r ?x))"},
            {"(<= p (not a) (not b) (distinct c d) (not p)) q", "p (<= q p)"}, {"(role a b)", "(a b) (b a)"},
            {"(<= (p ?a ?b ?c) (q ?a ?b ?c ?d) (r ?e)) )", "(<= (p ?f ?g ?h ?i) (q ?f ?g ?h ?i) (r ?a ?b ?c ?d))"}};
        for (String[] texts : both) {
            Game game = new Game();
            for (int times = 0; times < 2; times++) {
                Check.due("a fault in " + texts[0], game.read(texts[0]) == 0 ? 0 : 1, 1);
                Check.due("none in " + texts[1] + " behind it", game.read(texts[1]) + " at " + game.it.fault(), "0 at -1");
                Check.due("which can be started", Check.answer(game.it::start).length(), 1);
            }
        }
        Game game = Game.of("(<= (init a) p q r s t (not u) (not v) (distinct b c)) p q r s t");
        Check.due("eight conditions", game.it.start(), 1);
        Check.due("none where eight were", game.read("(init b) (init c)"), 0);
        Check.due("start() of these", game.it.start(), 2);
        Check.due("other ones where eight were", game.read("(<= (init a) (not p)) (<= (init b) q) q"), 0);
        Check.due("start() of those", game.state(game.it.start()), "a, b");
        Check.due("the first again", game.read("(<= (init a) p q r s t (not u) (not v) (distinct b c)) p q r s"), 0);
        Check.due("without one that has to hold", game.it.start(), 0);
    }

    /** Promise 4: "The text stays." */
    private static void textStays() {
        Game game = new Game();
        game.append("(role a) (p");
        Check.due("read() of a part", game.it.read() + " at " + game.it.fault(), "1 at 11");
        Check.due("it stays at a fault", game.it.put(0), 11);
        game.append(" b)");
        Check.due("read() of the whole", game.it.read(), 0);
        Check.due("it stays when all is well", game.it.put(0), 14);
        Check.due("read() again", game.it.read(), 0);
        game.it.end(8);
        Check.due("the sheet isn't the text", game.it.sheet(0), 2);
        Check.due("read() of what is left", game.it.read() + game.it.sheet(0), 1);
    }

    /** Promise 5: "Where the fault is that the latest read() found [...]; NONE if it found none, or there was none." */
    private static void faultOfLatest() {
        Game game = new Game();
        Check.due("there was no read()", game.it.fault(), -1);
        game.append("p p p (p a");
        Check.due("put() is none", game.it.fault(), -1);
        game.it.read();
        Check.due("a place", game.it.fault(), 10);
        Check.due("and again", game.it.fault(), 10);
        game.append(")");
        Check.due("until the next read()", game.it.fault(), 10);
        game.it.read();
        Check.due("a rule", game.it.fault(), 3);
        game.read("(<= terminal (does a b))");
        Check.due("which of 4", game.it.fault(), 3);
        game.read("(<= (init a) (true b))");
        Check.due("the first of 4", game.it.fault(), 0);
        game.read("p");
        Check.due("it found none", game.it.fault(), -1);
        game.read("");
        Check.due("it found one again", game.it.fault(), 0);
        game.it.sheet(0);
        Check.due("other calls leave it", game.it.start() + game.it.fault(), 0);
    }

    /** Promise 6: "How many rules the sheet has (what = 0), how many roles (1; 0 to 4)." */
    private static void sheetCounts() {
        String[] texts = {"p", "(role a)", "(role a) (role a)", "(role a) (<= (role b)) p", "(role a) (role b) (role c)",
            "(role a) (role b) (role c) (role d)", "(role a) (role b) (role c) (role d) (role e)",
            "(role a) (role a) (role b) (role b) (role c) (role c) (role d) (role (d a))", "p ".repeat(60),
            "(role (f a)) (role (f b)) (role f)"};
        int[] rules = {1, 1, 2, 3, 3, 4, 5, 8, 60, 3};
        int[] roles = {0, 1, 1, 2, 3, 4, 4, 4, 0, 3};
        for (int i = 0; i < texts.length; i++) {
            Game game = Game.of(texts[i]);
            Check.due("rules of " + texts[i], game.it.sheet(0), rules[i]);
            Check.due("roles of " + texts[i], game.it.sheet(1), roles[i]);
        }
    }

    /** Promise 6: "IllegalStateException if there is none; IllegalArgumentException for another what", in this order. */
    private static void sheetRefused() {
        Game game = new Game();
        for (int what : new int[] {0, 1, 2, -1, Integer.MAX_VALUE, Integer.MIN_VALUE}) {
            Check.refuses("sheet(" + what + ") of none", NO_SHEET, () -> game.it.sheet(what));
        }
        game.read("p");
        for (int what : new int[] {2, 3, -1, -2, Integer.MAX_VALUE, Integer.MIN_VALUE}) {
            Check.refuses("sheet(" + what + ")", NO_WHAT, () -> game.it.sheet(what));
        }
        Check.due("sheet(0) still", game.it.sheet(0), 1);
    }
}

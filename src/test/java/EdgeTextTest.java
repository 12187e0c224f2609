import java.util.HashSet;
import java.util.Random;
import java.util.Set;

/**
 * The edges of terms 1 (what a text, a token and a sheet are) and of promises 1 to 3. Above each
 * test stands the sentence of the document that it belongs to.
 */
final class EdgeTextTest {
    private static final Class<IllegalArgumentException> NO_SIGN = IllegalArgumentException.class;
    private static final Class<IllegalArgumentException> NO_END = IllegalArgumentException.class;
    private static final Class<UnsupportedOperationException> TOO_MANY = UnsupportedOperationException.class;
    private static final Class<IllegalStateException> NO_SHEET = IllegalStateException.class;
    private static final String WELL = "0 at -1";

    private EdgeTextTest() {
    }

    public static void main(String[] args) {
        signsOfATextAtMost();
        signsOfATextAll();
        partedByBlanks();
        partedByLineEnds();
        partedByComments();
        notParted();
        signsOfNames();
        lengthsOfNames();
        namesThatBeginOrEndAlike();
        lengthsOfVariables();
        variables();
        noToken();
        termsOfATerm();
        termsOfAnAtom();
        conditions();
        conditionsWithNot();
        conditionsWithDistinct();
        rules();
        conditionsOfARule();
        wordsNowhereElse();
        wordsAsVariables();
        rulesOfASheet();
        variablesOfARule();
        parentheses();
        relations();
        aNewObject();
        putFour();
        putZero();
        putNoSign();
        putTooMany();
        putBoth();
        endOfAll();
        endRefused();
        Check.finish("EdgeTextTest");
    }

    private static void well(String text) {
        Check.due("read() of " + text, Game.reading(text), WELL);
    }

    /** The text is no sheet: the sign ^ stands ahead of the place that is told. */
    private static void bad(String marked) {
        Check.due("read() of " + marked, Game.reading(marked.replace("^", "")), "1 at " + marked.indexOf('^'));
    }

    private static void rulesAre(String text, int many) {
        Check.due("the rules of " + text, Game.of(text).it.sheet(0), many);
    }

    /** Terms 1: "A TEXT has at most 2000 signs". The fullest one is read to its last sign. */
    private static void signsOfATextAtMost() {
        String full = "(role a)" + " ".repeat(1991) + "b";
        Check.due("its signs", full.length(), 2000);
        Game game = Game.of(full);
        Check.due("the last sign is a rule", game.it.sheet(0), 2);
        Check.refuses("one more sign", TOO_MANY, () -> game.it.put('c'));
        Check.due("a fault at the last sign", Game.reading("a" + " ".repeat(1998) + ")"), "1 at 1999");
        Check.due("a fault behind the last sign", Game.reading("(" + " ".repeat(1998) + "b"), "1 at 2000");
        Check.due("a comment up to the last sign", Game.reading("a;" + "(".repeat(1998)), WELL);
        Check.due("2000 tokens, the second can't come", Game.reading("(".repeat(2000)), "1 at 1");
    }

    /** Terms 1: "signs, 32 .. 126 and line ends (10)". All 256 bytes, in each of the four places. */
    private static void signsOfATextAll() {
        for (int sign = 0; sign < 256; sign++) {
            boolean well = sign == 10 || sign >= 32 && sign <= 126;
            for (int place = 0; place < 32; place += 8) {
                RuleSheets it = new RuleSheets();
                int signs = sign << place;
                String due = sign == 0 ? "0" : well ? "1" : "IllegalArgumentException";
                Check.due("put(" + signs + ")", Check.answer(() -> it.put(signs)), due);
            }
        }
    }

    /** Terms 1: "Blanks [...] part TOKENS". */
    private static void partedByBlanks() {
        rulesAre("a b", 2);
        rulesAre("ab", 1);
        rulesAre("  a   b  ", 2);
        well(" ( <= ( p ?x ) ( q ?x ) ) ");
    }

    /** Terms 1: "line ends [...] part TOKENS". */
    private static void partedByLineEnds() {
        rulesAre("a\nb", 2);
        rulesAre("\n\na\n\n\nb\n", 2);
        well("\n(\n<=\n(\np\n?x\n)\n(\nq\n?x\n)\n)\n");
    }

    /** Terms 1: "COMMENTS (from ; to the line's end) part TOKENS". */
    private static void partedByComments() {
        rulesAre("a;b\nc", 2);
        rulesAre("a;\nb", 2);
        rulesAre("a;b;c\n;d\nb", 2);
        rulesAre("a ;", 1);
        rulesAre("a ; b", 1);
        rulesAre(";\n;b\na", 1);
        well("a ; ( A ' ? < ~ \" {");
        bad("a ; b\n ^A");
        bad(";a^");
        bad("(p ; a)^");
        bad("(p ;\n^)");
        well("(p ;)\na)");
    }

    /** Terms 1: "Tokens need not be parted: a?x are two." */
    private static void notParted() {
        well("(<=(p?x?y)(q a?x?y(f?x)))");
        well("(<=p(distinct a?x)(q?x))");
        rulesAre("a(b c)d(<=e)f", 5);
        Check.due("?x?y are two, so the second isn't safe", Game.reading("(<=(p?x?y)(q?x))"), "5 at 0");
        Check.due("a?x are two", Game.reading("(p a)(p a?x)"), "2 at 1");
        bad("(p a^<=)");
    }

    /** Terms 1: "NAMES, one to sixteen small letters, digits and _". The signs beside these are none. */
    private static void signsOfNames() {
        well("a z 0 9 _ _a 9_ a0_z");
        for (char sign : "`{/:@[AZ^'\"-.,+*=>|~".toCharArray()) {
            Check.due("the sign " + sign, Game.reading("" + sign), "1 at 0");
            Check.due("the sign " + sign + " in a name", Game.reading("(p a" + sign + "b)"), "1 at 4");
            Check.due("the sign " + sign + " in a variable", Game.reading("(p ?a" + sign + ")"), "1 at 5");
            Check.due("the sign " + sign + " behind ?", Game.reading("(p ?" + sign + ")"), "1 at 3");
        }
    }

    /** Terms 1: "one to sixteen" signs "(as many as there are, one behind the other)". */
    private static void lengthsOfNames() {
        well("a");
        well("abcdefghijklmnop");
        well("0123456789012345");
        well("(________________ abcdefghijklmnop)");
        bad("^abcdefghijklmnopq");
        bad("a ^________________0");
        bad("(^abcdefghijklmnopq a)");
        bad("(p abcdefghijklmnop ^0bcdefghijklmnop_)");
        bad("^abcdefghijklmnopabcdefghijklmnop");
        bad("^" + "a".repeat(2000));
        rulesAre("abcdefghijklmnop abcdefghijklmno abcdefghijklmnop", 3);
        Check.due("sixteen signs tell names apart", Game.of("(init abcdefghijklmnop)(init abcdefghijklmnoq)")
                .it.start(), 2);
    }

    /** Terms 1: "NAMES, one to sixteen" signs: those that begin, or end, as another does are others. */
    private static void namesThatBeginOrEndAlike() {
        String signs = "abcdefghijklmnopqrstuvwxyz0123456789_";
        Random random = new Random(5);
        for (int times = 0; times < 80; times++) {
            StringBuilder text = new StringBuilder();
            Set<String> names = new HashSet<>();
            for (int i = 0; i < 3; i++) {
                StringBuilder name = new StringBuilder();
                for (int k = 0; k < 16; k++) {
                    name.append(signs.charAt(random.nextInt(37)));
                    names.add(times % 2 == 0 ? name.toString() : signs.charAt(k + 17 * (i % 2)) + name.substring(k / 15));
                }
            }
            for (String name : names) {
                text.append("(init ").append(name).append(")");
            }
            Check.due("start() of " + text, Game.of(text.toString()).it.start(), names.size());
        }
    }

    /** Terms 1: "VARIABLES, ? and a name": sixteen signs behind the ?, and not more. */
    private static void lengthsOfVariables() {
        well("(<= (p ?x) (q ?x))");
        well("(<= (p ?abcdefghijklmnop) (q ?abcdefghijklmnop))");
        bad("(<= (p ^?abcdefghijklmnopq) (q a))");
        Check.due("sixteen signs tell variables apart",
                Game.reading("(<= (p ?abcdefghijklmnop) (q ?abcdefghijklmnoq))"), "5 at 0");
    }

    /** Terms 1: "a name right behind it". */
    private static void variables() {
        bad("(p ^? x)");
        bad("(p ^?\nx)");
        bad("(p ^?;\nx)");
        bad("(p ^??x)");
        bad("(p ^?)");
        bad("(p ^?(f a))");
        bad("(p ^?");
        well("(<= p (q ?0) (q ?_) (q ?a))");
    }

    /** Terms 1: "A ? without a name, or a < without = , begins no token; a variable's place is that of its ?". */
    private static void noToken() {
        bad("a ^?");
        bad("(^< p)");
        bad("(^< = p)");
        bad("(^<");
        bad("(^<<= p)");
        bad("(^<a)");
        bad("(<=^= p)");
        bad("^=");
        bad("(p ^=)");
        bad("  ^?x");
        Game cut = new Game();
        cut.write("(<= p)");
        cut.it.end(2);
        Check.due("a < whose = is cut off", cut.it.read() + " at " + cut.it.fault(), "1 at 1");
        cut.write("(p ?x)");
        cut.it.end(4);
        Check.due("a ? whose name is cut off", cut.it.read() + " at " + cut.it.fault(), "1 at 3");
        cut.write("(<= p abcdefghijklmnopq)");
        cut.it.end(22);
        Check.due("a name that is cut to sixteen", cut.it.read() + " at " + cut.it.fault(), "1 at 22");
    }

    /** Terms 1: "A TERM is a name, a variable, or ( name, one to four terms )". */
    private static void termsOfATerm() {
        bad("(p (f^))");
        well("(p (f a))");
        well("(p (f a b c d))");
        well("(<= p (q (f ?a ?b ?c ?d)))");
        well("(p (f (f a) (f a) (f a) (f a b c d)))");
        bad("(p (f a b c d ^e))");
        bad("(p (f a b c d ^?x))");
        bad("(p (f a b c d ^(f a)))");
        bad("(p (^))");
        bad("(p (^?x a))");
        bad("(p (^(f) a))");
        bad("(p (^<= a))");
        bad("(p (f a^");
    }

    /** Terms 1: "An ATOM is a name, or ( name, one to four terms )": no variable. */
    private static void termsOfAnAtom() {
        well("p");
        bad("(p^)");
        well("(p a)");
        well("(p a b c d)");
        bad("(p a b c d ^e)");
        bad("(p a b c d ^(f e))");
        bad("^?x");
        bad("(<= ^?x)");
        bad("(<= (q^) a)");
        bad("(<= p (q^))");
        bad("(<= p (q a b c d ^e))");
        bad("(<= p (not (q^)))");
        bad("(<= p (not (q a b c d ^e)))");
        bad("(^?x a)");
        bad("(^)");
    }

    /** Terms 1: "A CONDITION is an atom, or ( not, an atom ), or ( distinct, two terms )". */
    private static void conditions() {
        well("(<= p q (q2 a) (not r) (not (r2 a)) (distinct a b))");
        bad("(<= p ^?x)");
        bad("(<= p (^?x))");
        bad("(<= p ^<= q)");
        bad("(<= p (^<= q))");
        bad("(<= p (^(q a)))");
        bad("(<= p (^))");
    }

    /** Terms 1: "( not, an atom )": one atom, and no variable, not or distinct. */
    private static void conditionsWithNot() {
        bad("(<= p (not^))");
        bad("(<= p (not q ^r))");
        bad("(<= p (not q ^(r a)))");
        bad("(<= p (not ^?x))");
        bad("(<= p (not (^not q)))");
        bad("(<= p (not (^distinct a b)))");
        bad("(<= p (not ^not))");
        bad("(<= p (not ^distinct))");
        bad("(<= p (not q^");
        bad("(<= p (not (^))");
    }

    /** Terms 1: "( distinct, two terms )": neither fewer nor more, each of any kind. */
    private static void conditionsWithDistinct() {
        bad("(<= p (distinct^))");
        bad("(<= p (distinct a^))");
        bad("(<= p (distinct (f a)^))");
        well("(<= p (distinct a b))");
        well("(<= p (q ?x) (distinct ?x (f ?x (g ?x))))");
        bad("(<= p (distinct a b ^c))");
        bad("(<= p (distinct a b ^(f c)))");
        bad("(<= p (distinct a ^not))");
        bad("(<= p (distinct (^distinct a b) c))");
    }

    /** Terms 1: "A RULE is an atom, its HEAD, alone, or ( <=, an atom, its head, [...] )". */
    private static void rules() {
        rulesAre("p (q a) (<= r) (<= (s a))", 4);
        bad("(<=^)");
        bad("(<= (^))");
        bad("^<= p");
        bad("^)");
        bad("p ^)");
        bad("(<= p) ^)");
        bad("(^(p a))");
        bad("(<= (^<= p))");
        bad("(<= p^");
    }

    /** Terms 1: "none to eight conditions". They count together, of whatever kind they are. */
    private static void conditionsOfARule() {
        well("(<= p)");
        well("(<= p a)");
        well("(<= p a b c d e f g h)");
        well("(<= p (not a) (not b) (not c) (not d) (not e) (not f) (not g) (not h))");
        well("(<= p (distinct a b) a (not b) (c a) (distinct c d) e (not (f a)) g)");
        bad("(<= p a b c d e f g h ^i)");
        bad("(<= p a b c d e f g h ^(i a))");
        bad("(<= p a b c d e f g h ^(not i))");
        bad("(<= p a b c d e f g h ^(distinct a b))");
        bad("(<= p (not a) (not b) (not c) (not d) (not e) (not f) (not g) (not h) ^i)");
        bad("(<= p a b c d e f g h ^?x)");
        bad("(<= p a b c d e f g h^");
    }

    /** Terms 1: "The names not and distinct stand nowhere else". */
    private static void wordsNowhereElse() {
        for (String word : new String[] {"not", "distinct"}) {
            for (String marked : new String[] {"^W", "(^W a)", "(^W a b)", "(<= ^W)", "(<= (^W a b))", "(p ^W)", "(p a ^W)",
                "(p (^W a b))", "(p (f ^W))", "(<= p ^W)", "(<= p q ^W)", "(<= p (q ^W))", "(<= p (not ^W))",
                "(<= p (not (^W a b)))", "(<= p (not (q ^W)))", "(<= p (distinct ^W a))", "(<= p (distinct a (^W b c)))",
                "p ^W", "(^W"}) {
                bad(marked.replace("W", word));
            }
        }
        well("nota not_ no nott (notdistinct not1) distinct1 (distinc distincta) _not");
    }

    /** Terms 1: "(but variables ?not and ?distinct may be)". */
    private static void wordsAsVariables() {
        well("(<= (p ?not ?distinct) (q ?not ?distinct) (not (r ?not)) (distinct ?not ?distinct))");
        bad("(<= p (^?not q))");
    }

    /** Terms 1: "A sheet is one to sixty rules, numbered from 0, up to the text's end." */
    private static void rulesOfASheet() {
        bad("^");
        bad("   \n ; a \n^");
        rulesAre("p", 1);
        String most = "p (q a) (<= r) ".repeat(20);
        rulesAre(most, 60);
        rulesAre(most + " ; and no more", 60);
        bad(most + "^p");
        bad(most + "^(q a)");
        bad(most + "^)");
        Check.due("the first rule has the number 0", Game.reading("(true a)"), "3 at 0");
        Check.due("the last of sixty has the number 59", Game.reading(most.substring(2) + "(true a)"), "3 at 59");
    }

    /** Terms 1: "a rule has at most eight unlike variables". */
    private static void variablesOfARule() {
        String eight = "(q ?a ?b ?c ?d) (q ?e ?f ?g ?h)";
        well("(<= p " + eight + ")");
        well("(<= (p ?a ?h) " + eight + " (q ?a ?b ?a ?b) (not (r ?c)) (distinct ?g ?h))");
        bad("(<= p " + eight + " (r ^?i))");
        bad("(<= p " + eight + " (not (r (f ?a ^?i))))");
        bad("(<= p " + eight + " (distinct ?a ^?i))");
        bad("(<= (p ?i) (q ?a ?b ?c ?d) (q ?e ?f ?g ^?h))");
        bad("(p (f ?a ?b ?c ?d) (f ?e ?f ?g ?h) ?a ^?i)");
        well("(<= p " + eight + ") (<= p (q ?i ?j ?k ?l) (q ?m ?n ?o ?p)) (<= p " + eight + ")");
        bad("(<= p " + eight + ") (<= p (q ?i ?j ?k ?l) (q ?m ?n ?o ?p) (r ^?a))");
    }

    /** Terms 1: "parentheses are at most ten in one another (those of a rule, a condition, not, distinct counted)". */
    private static void parentheses() {
        String[] open = {"(p ", "(<= (p ", "(<= p (q ", "(<= p (not (q ", "(<= p (distinct ", "(<= p (distinct a "};
        String[] close = {")", "))", "))", ")))", " b))", "))"};
        for (int i = 0; i < open.length; i++) {
            int depth = open[i].replaceAll("[^(]", "").length();
            int more = 10 - depth;
            well(open[i] + "(f ".repeat(more) + "a" + ")".repeat(more) + close[i]);
            bad(open[i] + "(f ".repeat(more) + "^(f a" + ")".repeat(more + 1) + close[i]);
            bad(open[i] + "(f ".repeat(more) + "a ^(f a" + ")".repeat(more + 1) + close[i]);
        }
        String nine = "(f ".repeat(9) + "a" + ")".repeat(9);
        well("(p " + nine + " " + nine + " " + nine + ") (p " + nine + " a a)");
        bad("(p " + nine + " (f " + nine.replace("(f a", "^(f a") + "))");
    }

    /** Terms 1: "The names of atoms are RELATIONS, with so many terms as they have". None are as good as some. */
    private static void relations() {
        well("p (q p) (<= (r p (p a b)) p (not p))");
        Check.due("a name alone has none", Game.reading("p (p a)"), "2 at 1");
        Check.due("an atom of none holds", Game.of("p (<= (init a) p) (<= (init b) (not p))").it.start(), 1);
    }

    /** Promise 1: "An empty text; nothing is read." */
    private static void aNewObject() {
        RuleSheets it = new RuleSheets();
        Check.due("the empty text", it.put(0), 0);
        Check.due("fault() of none", it.fault(), -1);
        Check.due("NONE", RuleSheets.NONE, -1);
        Check.refuses("sheet(0)", NO_SHEET, () -> it.sheet(0));
        Check.refuses("start()", NO_SHEET, it::start);
        Check.refuses("explore()", NO_SHEET, it::explore);
        Check.refuses("moves(0)", NO_SHEET, () -> it.moves(0));
        Check.refuses("terminal()", NO_SHEET, () -> it.terminal() ? 1 : 0);
        Check.refuses("goal(0)", NO_SHEET, () -> it.goal(0));
        Check.refuses("play(0)", NO_SHEET, () -> it.play(0));
        Check.refuses("sign(5, 0, 0)", NO_SHEET, () -> it.sign(5, 0, 0));
        Check.refuses("sign(0, 0, 0)", NO_SHEET, () -> it.sign(0, 0, 0));
        Check.refuses("defect(0)", NO_SHEET, () -> it.defect(0));
        Check.refuses("state(0, 0)", NO_SHEET, () -> it.state(0, 0));
        Check.refuses("next(0, 0)", NO_SHEET, () -> it.next(0, 0));
        Check.refuses("value(0)", NO_SHEET, () -> it.value(0));
        Check.refuses("best(0)", NO_SHEET, () -> it.best(0));
        it.end(0);
        Check.due("read() of the empty text", it.read(), 1);
        Check.due("its fault", it.fault(), 0);
        RuleSheets one = new RuleSheets();
        one.put('p');
        RuleSheets other = new RuleSheets();
        Check.due("another object has its own text", other.put(0), 0);
    }

    /** Promise 2: "Four more signs, the lowest byte first". */
    private static void putFour() {
        Game game = new Game();
        Check.due("put of four", game.it.put('p' | ' ' << 8 | 'q' << 16 | ')' << 24), 4);
        game.it.read();
        Check.due("the fourth is the highest byte", game.it.fault(), 3);
        game.it.end(0);
        Check.due("put of four again", game.it.put(')' | ' ' << 8 | 'q' << 16 | ' ' << 24), 4);
        game.it.read();
        Check.due("the first is the lowest byte", game.it.fault(), 0);
    }

    /** Promise 2: "(0 is left out)", wherever it stands. */
    private static void putZero() {
        Game game = new Game();
        Check.due("none", game.it.put(0), 0);
        Check.due("the last only", game.it.put('(' << 24), 1);
        Check.due("the second only", game.it.put('r' << 8), 2);
        Check.due("first and third", game.it.put('o' | 'l' << 16), 4);
        Check.due("second and last", game.it.put('e' << 8 | ' ' << 24), 6);
        Check.due("the third only", game.it.put('x' << 16), 7);
        Check.due("the first only", game.it.put(')'), 8);
        Check.due("none again", game.it.put(0), 8);
        Check.due("nothing stands between", game.it.read(), 0);
        Check.due("the role", game.text(5, 0), "x");
    }

    /** Promise 2: "IllegalArgumentException if a byte is none of those"; nothing of such a call stays. */
    private static void putNoSign() {
        Game game = new Game();
        game.append("p q");
        int[] none = {1, 9, 11, 12, 13, 31, 127, 128, 138, 160, 200, 254, 255};
        for (int sign : none) {
            for (int place = 0; place < 32; place += 8) {
                int signs = 0x61616161 & ~(255 << place) | sign << place;
                Check.refuses("put(" + signs + ")", NO_SIGN, () -> game.it.put(signs));
            }
        }
        Check.refuses("put(-1)", NO_SIGN, () -> game.it.put(-1));
        Check.refuses("put() of the least int", NO_SIGN, () -> game.it.put(Integer.MIN_VALUE));
        Check.due("nothing came of these", game.it.put(0), 3);
        Check.due("and the text is what it was", game.it.read() + game.it.sheet(0), 2);
    }

    /** Promise 2: "UnsupportedOperationException if there would be more than 2000"; none of the four stays. */
    private static void putTooMany() {
        for (int free = 0; free <= 5; free++) {
            for (int many = 0; many <= 4; many++) {
                Game game = new Game();
                game.append(" ".repeat(2000 - free));
                int signs = many == 4 ? 0x61616161 : many == 0 ? 0 : 0x61616161 >>> 8 * (4 - many);
                String due = many > free ? "UnsupportedOperationException" : "" + (2000 - free + many);
                Check.due("put of " + many + " where " + free + " are free", Check.answer(() -> game.it.put(signs)), due);
                Check.due("how many there are", game.it.put(0), many > free ? 2000 - free : 2000 - free + many);
                Check.due("a rule if it came", game.it.read(), many > 0 && many <= free ? 0 : 1);
            }
        }
        Game high = new Game();
        high.append(" ".repeat(1999));
        Check.due("zeros don't count", high.it.put('a' << 24), 2000);
    }

    /** "Of several exceptions that one goes which the call names first": put's IllegalArgumentException. */
    private static void putBoth() {
        Game game = new Game();
        game.append("a".repeat(2000));
        Check.refuses("a bad byte beyond 2000", NO_SIGN, () -> game.it.put(7));
        Check.refuses("a bad byte behind one beyond 2000", NO_SIGN, () -> game.it.put('a' | 7 << 24));
        Check.refuses("good bytes beyond 2000", TOO_MANY, () -> game.it.put('a'));
        Check.due("none at all", game.it.put(0), 2000);
    }

    /** Promise 3: "The text has its first n signs": none, some, all of them. */
    private static void endOfAll() {
        Game game = new Game();
        game.it.end(0);
        game.append("p q (r");
        game.it.end(6);
        Check.due("all stay", game.it.put(0), 6);
        Check.due("with what they say", game.it.read() + " at " + game.it.fault(), "1 at 6");
        game.it.end(3);
        Check.due("three stay", game.it.put(0), 3);
        Check.due("the first ones", game.it.read() + game.it.sheet(0), 2);
        Check.due("more come behind them", game.it.put('r' | ' ' << 8 | 's' << 16), 6);
        Check.due("and nothing of the old ones", game.it.read() + game.it.sheet(0), 3);
        game.it.end(0);
        Check.due("none stay", game.it.put(0), 0);
        Check.due("so it is no sheet", game.it.read() + " at " + game.it.fault(), "1 at 0");
        Game full = new Game();
        full.append("p".repeat(2000));
        full.it.end(2000);
        Check.due("2000 stay", full.it.put(0), 2000);
    }

    /** Promise 3: "IllegalArgumentException if n is below 0 or above how many there are." */
    private static void endRefused() {
        Game game = new Game();
        for (int n : new int[] {-1, 1, Integer.MIN_VALUE, Integer.MAX_VALUE}) {
            Check.refuses("end(" + n + ") of none", NO_END, () -> end(game, n));
        }
        game.append("p q");
        for (int n : new int[] {-1, -3, 4, 2000, Integer.MIN_VALUE, Integer.MAX_VALUE}) {
            Check.refuses("end(" + n + ") of three", NO_END, () -> end(game, n));
        }
        Check.due("three are there still", game.it.put(0), 3);
        game.it.end(2);
        Check.refuses("end(3) of two", NO_END, () -> end(game, 3));
        Check.due("two are there still", game.it.put(0), 2);
    }

    private static long end(Game game, int n) {
        game.it.end(n);
        return 0;
    }
}

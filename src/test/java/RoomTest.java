/**
 * All calls of a run live in one room, of some 600,000 objects and arrays and 7,300,000 fields and
 * elements: what a run makes is counted, from the constructor on, the dropped things too.
 */
final class RoomTest {
    /** Well inside the room, for any run. */
    private static final long MOST_ELEMENTS = 1_500_000;
    private static final long FEW_ELEMENTS = 150_000;
    private static final long MOST_OBJECTS = 30_000;
    private static final Class<UnsupportedOperationException> TOO_GREAT = UnsupportedOperationException.class;

    private static final String LETTERS = "abcdefghijklmnopqrst";

    private RoomTest() {
    }

    public static void main(String[] args) {
        // What Java itself makes when it first meets the class isn't the run's.
        new RuleSheets();
        ordinaryRun();
        deepTermsAndMoves();
        fullStates();
        tooManyFullStates();
        manyMovesAtHand();
        manyTermsAtOnce();
        dearestRun();
        againAndAgain();
        Check.finish("RoomTest");
    }

    /** (s a b)(s b c) .. up to (s s t). */
    private static String letters() {
        StringBuilder text = new StringBuilder();
        for (int i = 0; i < 19; i++) {
            text.append("(s ").append(LETTERS.charAt(i)).append(' ').append(LETTERS.charAt(i + 1)).append(")");
        }
        return text.toString();
    }

    /** (n a)(n b) .. */
    private static String set(String name, int many) {
        StringBuilder text = new StringBuilder();
        for (int i = 0; i < many; i++) {
            text.append("(").append(name).append(' ').append(LETTERS.charAt(i)).append(")");
        }
        return text.toString();
    }

    /** A term inside seven others. */
    private static String deep(String inner) {
        return "(a(a(a(a(a(a(a" + inner + ")))))))";
    }

    private static void ordinaryRun() {
        Room room = new Room();
        long atFirst = room.kept();
        room.read("(role x)(role y)(init (n 0))(s 0 1)(s 1 2)(legal x (m a))(legal y (m b))"
                + "(<= (next (n ?y)) (true (n ?x)) (s ?x ?y))(<= (next (did ?r ?m)) (does ?r ?m))");
        for (int i = 0; i < 100; i++) {
            room.due("start()", room.it::start, 1);
            room.due("play(0)", () -> room.it.play(0), 3);
            room.due("moves(0)", () -> room.it.moves(0), 1);
        }
        room.due("explore()", room.it::explore, 4);
        Check.due("an ordinary run makes nothing that stays", room.kept(), atFirst);
        room.finish("an ordinary run", FEW_ELEMENTS, MOST_OBJECTS);
    }

    /** 300 states of near 60 terms, and 40 moves of each, all of 47 signs and ten parts of their own. */
    private static final String DEEP = "(role r)(init(c a a))(s a b)(s b c)(s c d)(s d e)(s e f)(s f g)(s g h)(s h i)"
            + "(s i j)(s j k)(s k l)(s l m)(s m n)(s n o)(s o p)(s p q)(s q r)(s r s)(s s t)(s t a)(d a)(d b)(d c)(d d)"
            + "(d e)(d f)(d g)(d h)(e a)(e b)(e c)(e d)(e e)(e f)(e g)(f a)(f b)(f c)(f d)(f e)(<=(u?s?t)(true(c?s?t)))"
            + "(<=(next(c?s?v))(u?s?t)(s?t?v)(distinct?t t))(<=(next(c?v a))(u?s t)(s?s?v))"
            + "(<=(p(i(j?s?t?x?y)))(u?s?t)(d?x)(e?y))(<=(next(a(b(c(d(e(f(g(h?v)))))))))(p?v))"
            + "(<=(q(k(l?s?t?x?y)))(u?s?t)(d?x)(f?y))(<=(legal r(a(b(c(d(e(f(g(h?v)))))))))(q?v))"
            + "(<=terminal(true(c o t)))";

    private static void playDeep(Room room) {
        room.read(DEEP);
        room.due("explore() of deep terms", room.it::explore, 300);
        room.due("state(299, 0)", () -> room.it.state(299, 0), 57);
        room.due("state(1, 2)", () -> room.it.state(1, 2), 40);
        room.due("state(299, 1)", () -> room.it.state(299, 1), 1);
        room.due("next(298, 0)", () -> room.it.next(298, 0), 299);
    }

    private static void deepTermsAndMoves() {
        Check.due("the text's signs", DEEP.length(), 547);
        Room room = new Room();
        playDeep(room);
        room.finish("300 states of deep terms", MOST_ELEMENTS, MOST_OBJECTS);
    }

    /** Each state has 60 terms of 19 names, the most that 48 signs can tell. */
    private static final String FULL = "(role r)(legal r m)" + letters() + set("d", 6) + set("e", 9) + set("f", 5)
            + "(init" + count("a", "a") + ")(<=(k?s?t)(true" + count("?s", "?t") + "))"
            + "(<=(next" + count("?s", "?v") + ")(k?s?t)(s?t?v))(<=(next" + count("?v", "a") + ")(k?s t)(s?s?v))"
            + "(<=(next(q(b?x?y c d)(b a b c d)(b a b c)(b a?s?t)))(d?x)(e?y)(k?s?t))"
            + "(<=(next(q(b?x?x?x z)(b a b c d)(b a b c)(b a?s?t)))(f?x)(k?s?t))";
    private static final String FULL_300 = FULL + "(<=terminal(k o t))";
    private static final String FULL_301 = FULL + "(<=terminal(k p a))";

    private static String count(String s, String t) {
        return "(c(b a b c d)(b a b c d)(b a b c)(b a " + s + " " + t + "))";
    }

    private static void playFull(Room room) {
        room.read(FULL_300);
        room.due("explore() of full states", room.it::explore, 300);
        room.due("state(0, 0)", () -> room.it.state(0, 0), 1);
        room.due("state(299, 0)", () -> room.it.state(299, 0), 60);
        room.due("next(298, 0)", () -> room.it.next(298, 0), 299);
        room.due("state(299, 1)", () -> room.it.state(299, 1), 1);
    }

    private static void fullStates() {
        Room room = new Room();
        playFull(room);
        room.due("start()", room.it::start, 1);
        room.due("play(0)", () -> room.it.play(0), 60);
        room.due("the last term has 47 signs", () -> room.it.sign(0, 59, 46), ')');
        room.due("and no more", () -> room.it.sign(0, 59, 47), 0);
        room.finish("300 full states", MOST_ELEMENTS, MOST_OBJECTS);
    }

    private static void tooManyFullStates() {
        Room room = new Room();
        room.read(FULL_301);
        room.refuses("explore() of 301 full states", TOO_GREAT, room.it::explore);
        room.refuses("and again", TOO_GREAT, room.it::explore);
        room.finish("301 full states", MOST_ELEMENTS, MOST_OBJECTS);
    }

    /** A state with 760 deep moves at hand, beside 299 states with 760 atoms of four deep terms each. */
    private static final String MANY = "(role r)(init(c a a))" + letters() + set("d", 8) + set("f", 5)
            + "(<=(u(k?s?t))(true(c?s?t)))(legal r stay)(<=(legal r go)(true(c a a)))"
            + "(<=(next(c?s?v))(does r stay)(true(c?s?t))(s?t?v))"
            + "(<=(next(c?v a))(does r stay)(true(c?s t))(s?s?v))(<=(next fin)(does r go))"
            + "(<=(o" + deep("(j?u?x?y?z)") + deep("(l?u?x?y?z)") + deep("(m?u?x?y?z)") + deep("(n?u?x?y?z)")
            + ")(u?u)(d?x)(f?y)(s?z?n))"
            + "(<=(legal r" + deep("(j fin?x?y?z)") + ")(true fin)(d?x)(f?y)(s?z?n))"
            + "(<=terminal(true(c o s)))(<=terminal(true fin))";

    private static void playMany(Room room) {
        room.read(MANY);
        room.due("start()", room.it::start, 1);
        room.due("play(0)", () -> room.it.play(0), 1);
        room.due("moves(0)", () -> room.it.moves(0), 761);
        room.due("explore() beside many moves", room.it::explore, 300);
        room.due("next(0, 0)", () -> room.it.next(0, 0), 1);
        room.due("state(1, 1)", () -> room.it.state(1, 1), 1);
        room.due("next(298, 0)", () -> room.it.next(298, 0), 299);
        room.due("moves(0) still", () -> room.it.moves(0), 761);
        // (a (a (a (a (a (a (a (j fin h e s)))))))) and stay
        room.due("the last sign of the last move but one", () -> room.it.sign(1, 759, 40), ')');
        room.due("its end", () -> room.it.sign(1, 759, 41), 0);
        room.due("a name inside it", () -> room.it.sign(1, 759, 28), 'h');
        room.due("the last move", () -> room.it.sign(1, 760, 0), 's');
        room.due("play(760)", () -> room.it.play(760), 0);
        room.due("moves(0) of nothing", () -> room.it.moves(0), 1);
    }

    private static void manyMovesAtHand() {
        Room room = new Room();
        playMany(room);
        room.finish("many moves at hand", MOST_ELEMENTS, MOST_OBJECTS);
    }

    /**
     * 968 atoms of four terms with eight parts each, all unlike for unlike states, or for unlike
     * moves: the terms of two states, or of two moves, have no place beside one another.
     */
    private static String mass(String by) {
        return "(role r)(init(c a))(s a b)(s b c)" + set("d", 11) + set("e", 8) + "(legal r a)(legal r b)(legal r c)"
                + "(<=(next(c?y))(true(c?x))(s?x?y))(<=terminal(true(c c)))(<=(u(k?s))" + by + ")"
                + "(<=(o" + deep("(j?u?x?y?z)") + deep("(l?u?x?y?z)") + deep("(m?u?x?y?z)") + deep("(n?u?x?y?z)")
                + ")(u?u)(d?x)(d?y)(e?z))";
    }

    private static void manyTermsAtOnce() {
        Room room = new Room();
        for (String by : new String[] {"(true(c?s))", "(does r?s)"}) {
            room.read(mass(by));
            room.due("start()", room.it::start, 1);
            room.due("moves(0)", () -> room.it.moves(0), 3);
            room.due("explore() beside the state", room.it::explore, 3);
            room.due("next(0, 2)", () -> room.it.next(0, 2), 1);
            for (int i = 0; i < 2; i++) {
                int j = i;
                room.due("play()", () -> room.it.play(j), 1);
                room.due("terminal()", () -> room.it.terminal() ? 1 : 0, i);
            }
            room.due("the state", () -> room.it.sign(0, 0, 3), 'c');
        }
        room.read(mass("(true(c?s))") + "(f a)(f b)(f c)");
        room.due("start() with 1000 atoms", room.it::start, 1);
        room.refuses("1001 atoms", TOO_GREAT, () -> room.it.play(0));
        room.refuses("1001 atoms of a state ahead", TOO_GREAT, room.it::explore);
        room.due("moves(0) still", () -> room.it.moves(0), 3);
        room.finish("many terms at once", MOST_ELEMENTS, MOST_OBJECTS);
    }

    /** All of these one behind the other, in one run. */
    private static void dearestRun() {
        Room room = new Room();
        playMany(room);
        playFull(room);
        playDeep(room);
        room.finish("the dearest run", MOST_ELEMENTS, MOST_OBJECTS);
    }

    /** The end of a text is changed over and over: many sheets in one run. */
    private static void againAndAgain() {
        Room room = new Room();
        playFull(room);
        long then = room.kept();
        for (int i = 0; i < 60; i++) {
            room.due("put()", () -> room.it.put(' '), FULL_300.length() + i + 1);
            room.due("read()", room.it::read, 0);
            room.due("explore()", room.it::explore, 300);
            Check.due("what the sheets leave behind", room.kept(), then);
        }
        room.finish("sixty sheets", MOST_ELEMENTS, MOST_OBJECTS);
    }
}

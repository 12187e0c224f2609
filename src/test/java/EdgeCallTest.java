import java.util.ArrayList;
import java.util.List;

/**
 * The edges of promises 7 to 12, and of the paragraphs behind the terms: which exception goes
 * first, and that a call that throws changes nothing. Above each test stands the sentence of the
 * document that it belongs to.
 */
final class EdgeCallTest {
    private static final Class<IllegalStateException> NO_STATE = IllegalStateException.class;
    private static final Class<IndexOutOfBoundsException> NO_SUCH = IndexOutOfBoundsException.class;
    private static final Class<IllegalArgumentException> NO_WHAT = IllegalArgumentException.class;
    private static final Class<UnsupportedOperationException> TOO_GREAT = UnsupportedOperationException.class;
    private static final int MOST = Integer.MAX_VALUE;
    private static final int LEAST = Integer.MIN_VALUE;

    /** Two roles, of which the first has two moves, the second three; it ends behind two plays. */
    private static final String GAME = "(role x)(role(y z))(init(n 0))(init a)(s 0 1)(s 1 2)(legal x m)(legal x(f m))"
            + "(legal(y z)1)(legal(y z)2)(legal(y z)3)(<=(next(n ?j))(true(n ?i))(s ?i ?j))(<=(next(did ?r ?m))(does ?r ?m))"
            + "(<=terminal(true(n 2)))(<=(goal x 30)(true(n 0)))(<=(goal x 40)(true a))(<=(goal(y z)70)(true(n 1)))";

    private static final String DIGITS = "(d 0)(d 1)(d 2)(d 3)(d 4)(d 5)(d 6)(d 7)(d 8)(d 9)";

    /** More than 1000 atoms hold of the initial state, but not of no state. */
    private static final String TOO_MUCH = "(role x)(role y)(init go)(legal x m)(legal y m)" + DIGITS
            + "(<=(t ?a ?b ?c)(true go)(d ?a)(d ?b)(d ?c))";

    private EdgeCallTest() {
    }

    public static void main(String[] args) {
        startTells();
        startRefused();
        startTooGreat();
        movesTell();
        movesRefused();
        terminalTells();
        goalTells();
        goalRefused();
        playTells();
        playRefused();
        playOfTerminal();
        playTooGreat();
        signsOfTerms();
        signsOfMoves();
        signsOfRoles();
        signRefusedWithoutSheet();
        signRefusedWithoutState();
        signRefused();
        tooGreatOnlyIfItComesToIt();
        numbersBelowGoAhead();
        numbersTooGreatGoBehind();
        withoutRolesGoesAhead();
        rolesThatAreNotGoAhead();
        firstNamedGoesFirst();
        throwingChangesNothing();
        throwingChangesNothingTooGreat();
        answersAreTheSame();
        objectsOnTheirOwn();
        Check.finish("EdgeCallTest");
    }

    private static Game started(String text) {
        Game game = Game.of(text);
        game.it.start();
        return game;
    }

    /** Promise 7: "The state becomes the initial one: how many terms it has." None, one, sixty. */
    private static void startTells() {
        Check.due("none", Game.of("p").it.start(), 0);
        Check.due("one", Game.of("(init a)(init a)").it.start(), 1);
        Check.due("sixty", Game.of(DIGITS + "(<=(init(f ?a ?b))(d ?a)(d ?b)(e ?b))(e 0)(e 1)(e 2)(e 3)(e 4)(e 5)")
                .it.start(), 60);
        Game game = started(GAME);
        Check.due("at first", game.state(2), "(n 0), a");
        game.it.play(0);
        game.it.play(0);
        Check.due("from any state", game.it.start(), 2);
        Check.due("it is the initial one", game.state(2), "(n 0), a");
        Check.refuses("with no more terms", NO_SUCH, () -> game.it.sign(0, 2, 0));
        Check.due("with its moves", game.moves(0), "(f m), m");
    }

    /** Promise 7: "IllegalStateException if there is no sheet". */
    private static void startRefused() {
        Game game = new Game();
        Check.refuses("nothing is put", NO_STATE, () -> game.it.start());
        game.write(GAME);
        Check.refuses("nothing is read", NO_STATE, () -> game.it.start());
        game.it.end(20);
        game.it.read();
        Check.refuses("what is read has a fault", NO_STATE, () -> game.it.start());
        game.write(GAME);
        game.it.read();
        Check.due("a sheet", game.it.start(), 2);
    }

    /** Promise 7: "UnsupportedOperationException if it is too great": it stays without a state. */
    private static void startTooGreat() {
        String[] all = {"(init z)" + DIGITS + "(<=(t ?a ?b ?c)(d ?a)(d ?b)(d ?c))",
            "(init z)" + DIGITS + "(<=(t ?a ?b)(d ?a)(d ?b))(<=v(t ?a ?b)(t ?c ?e)(t ?f ?g))",
            "(init (f abcdefghijklmnop abcdefghijklmnop abcdefghijklmnop))",
            DIGITS + "(<=(init(f ?a ?b))(d ?a)(d ?b))"};
        for (String text : all) {
            Game game = Game.of("(role r)(legal r m)" + text);
            for (int times = 0; times < 2; times++) {
                Check.refuses("start() of " + text, TOO_GREAT, () -> game.it.start());
                Check.refuses("there is no state", NO_STATE, () -> game.it.moves(0));
                Check.refuses("nor its end", NO_STATE, () -> game.it.terminal() ? 1 : 0);
                Check.refuses("nor its goals", NO_STATE, () -> game.it.goal(0));
                Check.refuses("nor a next one", NO_STATE, () -> game.it.play(0));
                Check.refuses("nor its terms", NO_STATE, () -> game.it.sign(0, 0, 0));
                Check.due("but the roles", game.text(5, 0), "r");
            }
        }
    }

    /** Promise 8: "How many moves role r has in the state." None, and of a terminal one, too. */
    private static void movesTell() {
        Game game = started(GAME);
        Check.due("moves(0)", game.it.moves(0), 2);
        Check.due("moves(1)", game.it.moves(1), 3);
        Game other = started("(role a)(role b)(role c)(role d)(legal d m)(<=(legal c m)(true z))terminal");
        Check.due("none", other.it.moves(2), 0);
        Check.due("of a terminal state, the fourth role's", other.it.moves(3), 1);
        Game many = started("(role a)" + DIGITS + "(<=(legal a(f ?x ?y ?z))(d ?x)(d ?y)(e ?z))"
                + "(e 0)(e 1)(e 2)(e 3)(e 4)(e 5)(e 6)(e 7)(e 8)");
        Check.due("900", many.it.moves(0), 900);
        Check.due("the last of them", many.text(1, 899), "(f 9 9 8)");
        Check.due("may be played", many.it.play(899), 0);
    }

    /** Promise 8: "IllegalStateException if there is no state; IndexOutOfBoundsException if there is no such role", in this order. */
    private static void movesRefused() {
        Game game = new Game();
        for (int r : new int[] {0, 1, -1, 9}) {
            Check.refuses("moves(" + r + ") without a sheet", NO_STATE, () -> game.it.moves(r));
        }
        game.read(GAME);
        for (int r : new int[] {0, 1, 2, -1, MOST, LEAST}) {
            Check.refuses("moves(" + r + ") without a state", NO_STATE, () -> game.it.moves(r));
        }
        game.it.start();
        for (int r : new int[] {2, 3, 4, -1, MOST, LEAST}) {
            Check.refuses("moves(" + r + ")", NO_SUCH, () -> game.it.moves(r));
        }
        Game none = started("(legal x m)");
        Check.refuses("moves(0) without roles", NO_SUCH, () -> none.it.moves(0));
    }

    /** Promise 9: "Whether the state is terminal. IllegalStateException if there is no state". */
    private static void terminalTells() {
        Game game = new Game();
        Check.refuses("without a sheet", NO_STATE, () -> game.it.terminal() ? 1 : 0);
        game.read(GAME);
        Check.refuses("without a state", NO_STATE, () -> game.it.terminal() ? 1 : 0);
        game.it.start();
        Check.due("of the first", game.it.terminal() ? 1 : 0, 0);
        game.it.play(0);
        Check.due("of the second", game.it.terminal() ? 1 : 0, 0);
        game.it.play(0);
        Check.due("of the third", game.it.terminal() ? 1 : 0, 1);
        game.it.play(0);
        Check.due("of the one behind it", game.it.terminal() ? 1 : 0, 0);
        Check.due("without roles", started("terminal").it.terminal() ? 1 : 0, 1);
        Game much = started(TOO_MUCH + "terminal");
        Check.refuses("of one that is too great", TOO_GREAT, () -> much.it.terminal() ? 1 : 0);
    }

    /** Promise 10: "The goal of role r in the state; NONE if there is none, -2 if there are several." */
    private static void goalTells() {
        Game game = started(GAME);
        Check.due("several", game.it.goal(0), -2);
        Check.due("none", game.it.goal(1), RuleSheets.NONE);
        game.it.play(0);
        Check.due("none then", game.it.goal(0), RuleSheets.NONE);
        Check.due("one then", game.it.goal(1), 70);
        game.it.start();
        Check.due("several again", game.it.goal(0), -2);
        Game edge = started("(role a)(role b)(role c)(role d)(goal a 0)(goal b 100)(goal c 101)(goal d 0)(goal d 100)");
        Check.due("0", edge.it.goal(0), 0);
        Check.due("100", edge.it.goal(1), 100);
        Check.due("101 is none", edge.it.goal(2), -1);
        Check.due("0 and 100 are several", edge.it.goal(3), -2);
    }

    /** Promise 10: "IllegalStateException if there is no state; IndexOutOfBoundsException if there is no such role", in this order. */
    private static void goalRefused() {
        Game game = new Game();
        Check.refuses("goal(0) without a sheet", NO_STATE, () -> game.it.goal(0));
        game.read(GAME);
        for (int r : new int[] {0, 1, 2, -1, MOST, LEAST}) {
            Check.refuses("goal(" + r + ") without a state", NO_STATE, () -> game.it.goal(r));
        }
        game.it.start();
        for (int r : new int[] {2, 3, 4, -1, MOST, LEAST}) {
            Check.refuses("goal(" + r + ")", NO_SUCH, () -> game.it.goal(r));
        }
        Game none = started("(goal x 100)");
        Check.refuses("goal(0) without roles", NO_SUCH, () -> none.it.goal(0));
    }

    /** Promise 11: "The state becomes the next one by joint move j [...]: how many terms it has." */
    private static void playTells() {
        String[] moves = {"(did (y z) 1), (did x (f m))", "(did (y z) 2), (did x (f m))", "(did (y z) 3), (did x (f m))",
            "(did (y z) 1), (did x m)", "(did (y z) 2), (did x m)", "(did (y z) 3), (did x m)"};
        Game game = Game.of(GAME);
        for (int j = 0; j < 6; j++) {
            game.it.start();
            Check.due("play(" + j + ")", game.it.play(j), 3);
            Check.due("the state by it", game.state(3), moves[j] + ", (n 1)");
        }
        Check.due("to none", started("(role a)(init x)(legal a m)").it.play(0), 0);
        Game same = started("(role a)(init x)(legal a m)(<=(next ?t)(true ?t))");
        Check.due("to the same", same.it.play(0), 1);
        Check.due("it is the same", same.state(1), "x");
        Check.due("and goes on", same.it.play(0), 1);
    }

    /** Promise 11: "IllegalStateException if there is no state; IndexOutOfBoundsException if there is no such joint move, or there are no roles". */
    private static void playRefused() {
        Game game = new Game();
        Check.refuses("play(0) without a sheet", NO_STATE, () -> game.it.play(0));
        game.read(GAME);
        for (int j : new int[] {0, 6, -1, MOST, LEAST}) {
            Check.refuses("play(" + j + ") without a state", NO_STATE, () -> game.it.play(j));
        }
        game.it.start();
        for (int j : new int[] {6, 7, 12, -1, -6, MOST, LEAST}) {
            Check.refuses("play(" + j + ")", NO_SUCH, () -> game.it.play(j));
        }
        Check.due("the state stays", game.state(2), "(n 0), a");
        Game one = started("(role a)(init x)(legal a m)");
        Check.refuses("play(1) of one", NO_SUCH, () -> one.it.play(1));
        Game stuck = started("(role a)(role b)(role c)(init x)(legal a m)(legal c m)");
        for (int j : new int[] {0, 1, -1, MOST}) {
            Check.refuses("play(" + j + ") where a role has no move", NO_SUCH, () -> stuck.it.play(j));
        }
        Game none = started("(init x)(legal a m)");
        for (int j : new int[] {0, 1, -1, MOST, LEAST}) {
            Check.refuses("play(" + j + ") without roles", NO_SUCH, () -> none.it.play(j));
        }
        Check.due("the state stays there", none.state(1), "x");
    }

    /** Promise 11: "(terminal or not)". */
    private static void playOfTerminal() {
        Game game = started(GAME);
        game.it.play(0);
        game.it.play(0);
        Check.due("it is terminal", game.it.terminal() ? 1 : 0, 1);
        Check.refuses("play(6)", NO_SUCH, () -> game.it.play(6));
        Check.due("play(5)", game.it.play(5), 2);
        Check.due("the state then", game.state(2), "(did (y z) 3), (did x m)");
        Game stuck = started("(role a)terminal");
        Check.refuses("a terminal one without moves", NO_SUCH, () -> stuck.it.play(0));
    }

    /** Promise 11: "UnsupportedOperationException if it is too great": of the state, by the moves, or the next state. */
    private static void playTooGreat() {
        Game much = started(TOO_MUCH);
        Check.refuses("the state is", TOO_GREAT, () -> much.it.play(0));
        Check.due("it stays", much.state(1), "go");
        Game moved = started("(role x)(init go)(legal x m)(legal x n)" + DIGITS
                + "(<=(t ?a ?b ?c)(does x n)(d ?a)(d ?b)(d ?c))(<=(next ?m)(does x ?m))");
        Check.refuses("it is by the moves", TOO_GREAT, () -> moved.it.play(1));
        Check.due("it stays there", moved.state(1), "go");
        Check.due("other moves are well", moved.it.play(0), 1);
        Check.due("and lead on", moved.state(1), "m");
        Game next = started("(role x)(init go)(legal x m)(legal x n)" + DIGITS
                + "(<=(next(f ?a ?b))(does x m)(d ?a)(d ?b))(<=(next ?a)(does x n)(d ?a))");
        Check.refuses("the next state is", TOO_GREAT, () -> next.it.play(0));
        Check.due("the state stays", next.state(1), "go");
        Check.due("another is well", next.it.play(1), 10);
        Game behind = started("(role x)(init a)(legal x m)" + DIGITS + "(<=(next b)(true a))"
                + "(<=(t ?a ?b ?c)(true b)(d ?a)(d ?b)(d ?c))");
        Check.due("what is too great of the next state isn't asked", behind.it.play(0), 1);
        Check.due("it is the state", behind.state(1), "b");
        Check.refuses("until it is", TOO_GREAT, () -> behind.it.moves(0));
        Check.refuses("and it can't be played on", TOO_GREAT, () -> behind.it.play(0));
        Check.due("but start() is well", behind.it.start(), 1);
        Check.due("with all that holds", behind.it.moves(0), 1);
    }

    /** Promise 12: "Sign k of a text (0 behind its end): of what = 0 the state's i-th term". */
    private static void signsOfTerms() {
        Game game = started(GAME);
        String text = "(n 0)";
        for (int k = 0; k < 5; k++) {
            Check.due("sign(0, 0, " + k + ")", game.it.sign(0, 0, k), text.charAt(k));
        }
        for (int k : new int[] {5, 6, 47, 48, 49, 1000, MOST}) {
            Check.due("sign(0, 0, " + k + ")", game.it.sign(0, 0, k), 0);
            Check.due("sign(0, 1, " + k + ")", game.it.sign(0, 1, k), 0);
        }
        Check.due("of a name the first", game.it.sign(0, 1, 0), 'a');
        Check.due("behind its end", game.it.sign(0, 1, 1), 0);
        String deep = "(fff (g a b c d) (h (i (j k))) 0123456789abcdef)";
        Game full = started("(init " + deep + ")");
        for (int k = 0; k < 48; k++) {
            Check.due("sign " + k + " of 48", full.it.sign(0, 0, k), deep.charAt(k));
        }
        Check.due("behind 48", full.it.sign(0, 0, 48), 0);
    }

    /** Promise 12: "1 + r the i-th move of role r", of each of four roles. */
    private static void signsOfMoves() {
        Game game = started("(role a)(role b)(role c)(role d)(legal a 1)(legal b 2)(legal b 22)(legal c 3)(legal d(4 4))(legal d 4)");
        Check.due("the first role's", game.moves(0), "1");
        Check.due("the second role's", game.moves(1), "2, 22");
        Check.due("the third role's", game.moves(2), "3");
        Check.due("the fourth role's", game.moves(3), "(4 4), 4");
        Check.due("behind an end", game.it.sign(2, 0, 1), 0);
        Check.due("not behind another", game.it.sign(2, 1, 1), '2');
        Check.due("far behind", game.it.sign(4, 0, MOST), 0);
        Check.refuses("sign(1, 1, 0)", NO_SUCH, () -> game.it.sign(1, 1, 0));
        Check.refuses("sign(2, 2, 0)", NO_SUCH, () -> game.it.sign(2, 2, 0));
        Check.refuses("sign(4, 2, 0)", NO_SUCH, () -> game.it.sign(4, 2, 0));
        Check.due("no state's terms are asked for", game.it.start(), 0);
        Check.refuses("sign(0, 0, 0) of none", NO_SUCH, () -> game.it.sign(0, 0, 0));
    }

    /** Promise 12: "5 role i", without a state, too. */
    private static void signsOfRoles() {
        Game game = Game.of(GAME);
        Check.due("the first", game.text(5, 0), "x");
        Check.due("the second", game.text(5, 1), "(y z)");
        Check.due("behind its end", game.it.sign(5, 1, 5), 0);
        Check.due("far behind", game.it.sign(5, 1, MOST), 0);
        for (int i : new int[] {2, 3, 4, -1, MOST, LEAST}) {
            Check.refuses("sign(5, " + i + ", 0)", NO_SUCH, () -> game.it.sign(5, i, 0));
        }
        Check.refuses("sign(5, 0, -1)", NO_SUCH, () -> game.it.sign(5, 0, -1));
        game.it.start();
        Check.due("with a state", game.text(5, 1), "(y z)");
        Game none = Game.of("p");
        Check.refuses("without roles", NO_SUCH, () -> none.it.sign(5, 0, 0));
    }

    /** Promise 12: "IllegalStateException if there is no sheet", ahead of all others. */
    private static void signRefusedWithoutSheet() {
        Game game = new Game();
        for (int what = -1; what < 8; what++) {
            int w = what;
            Check.refuses("sign(" + w + ", 0, 0)", NO_STATE, () -> game.it.sign(w, 0, 0));
            Check.refuses("sign(" + w + ", -1, -1)", NO_STATE, () -> game.it.sign(w, -1, -1));
        }
    }

    /** Promise 12: "IllegalArgumentException for another what; IllegalStateException if there is no state (0 to 4)", in this order. */
    private static void signRefusedWithoutState() {
        Game game = Game.of(GAME);
        for (int what : new int[] {-1, 6, 7, MOST, LEAST}) {
            Check.refuses("sign(" + what + ", 0, 0)", NO_WHAT, () -> game.it.sign(what, 0, 0));
            Check.refuses("sign(" + what + ", -1, -1)", NO_WHAT, () -> game.it.sign(what, -1, -1));
        }
        for (int what = 0; what < 5; what++) {
            int w = what;
            Check.refuses("sign(" + w + ", 0, 0)", NO_STATE, () -> game.it.sign(w, 0, 0));
            Check.refuses("sign(" + w + ", -1, -1)", NO_STATE, () -> game.it.sign(w, -1, -1));
            Check.refuses("sign(" + w + ", 99, 0)", NO_STATE, () -> game.it.sign(w, 99, 0));
        }
        Check.due("sign(5, 0, 0)", game.it.sign(5, 0, 0), 'x');
        game.it.start();
        for (int what : new int[] {-1, 6, 7, MOST, LEAST}) {
            Check.refuses("sign(" + what + ", -1, -1) with a state", NO_WHAT, () -> game.it.sign(what, -1, -1));
        }
    }

    /** Promise 12: "IndexOutOfBoundsException if there is no such role, term or move, or k is below 0". */
    private static void signRefused() {
        Game game = started(GAME);
        int[][] none = {{0, 2}, {0, 60}, {0, -1}, {0, MOST}, {0, LEAST}, {1, 2}, {1, -1}, {1, MOST}, {1, LEAST}, {2, 3},
            {2, -1}, {2, MOST}, {3, 0}, {3, -1}, {4, 0}, {4, MOST}, {5, 2}, {5, -1}};
        for (int[] a : none) {
            for (int k : new int[] {0, 5, -1, MOST, LEAST}) {
                Check.refuses("sign(" + a[0] + ", " + a[1] + ", " + k + ")", NO_SUCH, () -> game.it.sign(a[0], a[1], k));
            }
        }
        int[][] there = {{0, 0}, {0, 1}, {1, 1}, {2, 2}, {5, 1}};
        for (int[] a : there) {
            for (int k : new int[] {-1, -2, LEAST}) {
                Check.refuses("sign(" + a[0] + ", " + a[1] + ", " + k + ")", NO_SUCH, () -> game.it.sign(a[0], a[1], k));
            }
        }
    }

    /** Terms 3: "A call for which it comes to something too great throws UnsupportedOperationException": others don't. */
    private static void tooGreatOnlyIfItComesToIt() {
        Game game = started(TOO_MUCH);
        for (int times = 0; times < 2; times++) {
            Check.refuses("moves(0)", TOO_GREAT, () -> game.it.moves(0));
            Check.refuses("moves(1)", TOO_GREAT, () -> game.it.moves(1));
            Check.refuses("terminal()", TOO_GREAT, () -> game.it.terminal() ? 1 : 0);
            Check.refuses("goal(0)", TOO_GREAT, () -> game.it.goal(0));
            Check.refuses("play(0)", TOO_GREAT, () -> game.it.play(0));
            Check.refuses("sign(1, 0, 0)", TOO_GREAT, () -> game.it.sign(1, 0, 0));
            Check.refuses("sign(2, 0, 9)", TOO_GREAT, () -> game.it.sign(2, 0, 9));
            Check.refuses("explore()", TOO_GREAT, () -> game.it.explore());
            Check.due("the state's term", game.text(0, 0), "go");
            Check.due("a role", game.text(5, 1), "y");
            Check.due("the sheet", game.it.sheet(0) + game.it.sheet(1), 18);
            Check.due("the initial state", game.it.start(), 1);
        }
    }

    /** "(for one below 0 [...] ahead of it)": IndexOutOfBoundsException ahead of UnsupportedOperationException. */
    private static void numbersBelowGoAhead() {
        Game game = started(TOO_MUCH);
        for (int below : new int[] {-1, -2, LEAST}) {
            Check.refuses("play(" + below + ")", NO_SUCH, () -> game.it.play(below));
            Check.refuses("sign(1, " + below + ", 0)", NO_SUCH, () -> game.it.sign(1, below, 0));
            Check.refuses("sign(1, 0, " + below + ")", NO_SUCH, () -> game.it.sign(1, 0, below));
            Check.refuses("sign(1, 99, " + below + ")", NO_SUCH, () -> game.it.sign(1, 99, below));
            Check.refuses("moves(" + below + ")", NO_SUCH, () -> game.it.moves(below));
            Check.refuses("goal(" + below + ")", NO_SUCH, () -> game.it.goal(below));
        }
    }

    /** "but IndexOutOfBoundsException for a number that is too great goes behind UnsupportedOperationException". */
    private static void numbersTooGreatGoBehind() {
        Game game = started(TOO_MUCH);
        for (int beyond : new int[] {1, 2, 1000, MOST}) {
            Check.refuses("play(" + beyond + ")", TOO_GREAT, () -> game.it.play(beyond));
            Check.refuses("sign(1, " + beyond + ", 0)", TOO_GREAT, () -> game.it.sign(1, beyond, 0));
            Check.refuses("sign(2, " + beyond + ", 0)", TOO_GREAT, () -> game.it.sign(2, beyond, 0));
        }
        Game stuck = started(TOO_MUCH.replace("(legal y m)", ""));
        Check.refuses("play(0) where a role has no move", TOO_GREAT, () -> stuck.it.play(0));
        Check.refuses("sign(2, 0, 0) where it has none", TOO_GREAT, () -> stuck.it.sign(2, 0, 0));
    }

    /** "(for [...] where there are no roles, ahead of it)". */
    private static void withoutRolesGoesAhead() {
        Game game = started(TOO_MUCH.replace("(role x)(role y)", ""));
        for (int j : new int[] {0, 1, -1, MOST, LEAST}) {
            Check.refuses("play(" + j + ")", NO_SUCH, () -> game.it.play(j));
        }
        Check.refuses("moves(0)", NO_SUCH, () -> game.it.moves(0));
        Check.refuses("goal(0)", NO_SUCH, () -> game.it.goal(0));
        Check.refuses("sign(1, 0, 0)", NO_SUCH, () -> game.it.sign(1, 0, 0));
        Check.refuses("terminal() asks for no role", TOO_GREAT, () -> game.it.terminal() ? 1 : 0);
    }

    /** "(for [...] a role that there isn't [...] ahead of it)". */
    private static void rolesThatAreNotGoAhead() {
        Game game = started(TOO_MUCH);
        for (int r : new int[] {2, 3, 4, MOST}) {
            Check.refuses("moves(" + r + ")", NO_SUCH, () -> game.it.moves(r));
            Check.refuses("goal(" + r + ")", NO_SUCH, () -> game.it.goal(r));
        }
        Check.refuses("sign(3, 0, 0)", NO_SUCH, () -> game.it.sign(3, 0, 0));
        Check.refuses("sign(4, 99, 0)", NO_SUCH, () -> game.it.sign(4, 99, 0));
        Check.refuses("sign(5, 2, 0)", NO_SUCH, () -> game.it.sign(5, 2, 0));
    }

    /** "Of several exceptions that one goes which the call names first". */
    private static void firstNamedGoesFirst() {
        Game none = new Game();
        none.append("a".repeat(1999));
        Check.refuses("put: a byte that is none, and too many", NO_WHAT, () -> none.it.put('a' | 'b' << 8 | 1 << 16));
        Check.refuses("sheet: no sheet, another what", NO_STATE, () -> none.it.sheet(-1));
        Check.refuses("sign: no sheet, another what", NO_STATE, () -> none.it.sign(-1, -1, -1));
        Check.refuses("defect: not known, another what", NO_STATE, () -> none.it.defect(2));
        Check.refuses("state: not known, none such", NO_STATE, () -> none.it.state(-1, 3));
        Game game = Game.of(GAME);
        Check.refuses("moves: no state, no such role", NO_STATE, () -> game.it.moves(2));
        Check.refuses("goal: no state, no such role", NO_STATE, () -> game.it.goal(2));
        Check.refuses("play: no state, no such joint move", NO_STATE, () -> game.it.play(-1));
        Check.refuses("sign: another what, no state", NO_WHAT, () -> game.it.sign(6, -1, -1));
        Check.refuses("sign: no state, no such role", NO_STATE, () -> game.it.sign(4, 0, 0));
        Check.refuses("next: not known, none such", NO_STATE, () -> game.it.next(-1, -1));
        Check.refuses("value: not known, none such", NO_STATE, () -> game.it.value(-1));
        Check.refuses("best: not known, none such", NO_STATE, () -> game.it.best(-1));
        game.it.explore();
        Check.due("it has a defect", game.it.defect(0), 3);
        Check.refuses("value: a defect, none such", NO_STATE, () -> game.it.value(-1));
        Check.refuses("best: a defect, none such", NO_STATE, () -> game.it.best(99));
        Check.refuses("state: none such, another what", NO_SUCH, () -> game.it.state(-1, 3));
        Check.refuses("state: none such, another what again", NO_SUCH, () -> game.it.state(300, -1));
    }

    /** Everything that the calls tell of an object; no call of these changes it but by finding all states. */
    private static String told(Game game) {
        List<String> all = new ArrayList<>();
        RuleSheets it = game.it;
        all.add(Check.answer(() -> it.put(0)));
        all.add(Check.answer(it::fault));
        for (int i = 0; i < 2; i++) {
            int x = i;
            all.add(Check.answer(() -> it.sheet(x)));
            all.add(Check.answer(() -> it.defect(x)));
        }
        all.add(Check.answer(() -> it.terminal() ? 1 : 0));
        for (int r = 0; r < 4; r++) {
            int x = r;
            all.add(Check.answer(() -> it.moves(x)));
            all.add(Check.answer(() -> it.goal(x)));
        }
        for (int what = 0; what < 6; what++) {
            for (int i = 0; i < 3; i++) {
                for (int k = 0; k < 4; k += 3) {
                    int w = what;
                    int x = i;
                    int y = k;
                    all.add(Check.answer(() -> it.sign(w, x, y)));
                }
            }
        }
        for (int n = 0; n < 5; n++) {
            int x = n;
            all.add(Check.answer(() -> it.value(x)) + Check.answer(() -> it.best(x)));
            for (int i = 0; i < 3; i++) {
                int y = i;
                all.add(Check.answer(() -> it.state(x, y)) + Check.answer(() -> it.next(x, y)));
            }
        }
        return all.toString();
    }

    /** Calls that must throw, whatever there is. */
    private static List<Check.Call> refused(RuleSheets it) {
        List<Check.Call> calls = new ArrayList<>();
        for (int a : new int[] {-1, 7, 60, 300, MOST, LEAST}) {
            calls.add(() -> it.put(a << 24 | 7));
            calls.add(() -> {
                it.end(a < 0 ? a : 2001);
                return 0;
            });
            calls.add(() -> it.sheet(a));
            calls.add(() -> it.moves(a));
            calls.add(() -> it.goal(a));
            calls.add(() -> it.play(a));
            calls.add(() -> it.defect(a));
            calls.add(() -> it.value(a));
            calls.add(() -> it.best(a));
            calls.add(() -> it.next(0, a));
            calls.add(() -> it.next(a, 0));
            for (int b : new int[] {-1, 7, MOST, LEAST}) {
                calls.add(() -> it.sign(a, b, 0));
                calls.add(() -> it.sign(1, b, a));
                calls.add(() -> it.state(a, b));
            }
        }
        return calls;
    }

    /** The calls that throw leave all that is told as it was; what is made by setting up is made anew each time. */
    private static void leavesAll(String what, int setting) {
        int many = refused(new RuleSheets()).size();
        for (int first = 0; first < many; first += 20) {
            Game game = new Game();
            set(game, setting);
            String before = told(game);
            List<Check.Call> calls = refused(game.it);
            for (int i = first; i < many && i < first + 20; i++) {
                Check.due(what + ", whether the call " + i + " throws",
                        Character.isLetter(Check.answer(calls.get(i)).charAt(0)) ? 1 : 0, 1);
            }
            Check.due(what + ", behind the calls from " + first + " on", told(game), before);
        }
    }

    private static void set(Game game, int setting) {
        if (setting > 0) {
            String sheet = GAME.replace("(legal x(f m))", "") + "(<=(goal(y z)60)(true(n 2)))(<=(goal x 40)(true(n 2)))";
            Check.due("read()", game.read(sheet), 0);
        }
        if (setting > 1) {
            game.it.start();
            game.it.play(1);
        }
        if (setting > 2) {
            game.it.explore();
            Check.due("there is no defect", game.it.defect(0), 0);
        }
        if (setting > 3) {
            Check.due("the fault of another text", game.read("(p a) (p"), 1);
        }
    }

    /** "A call that throws changes nothing", whatever there is: no sheet, no state, no states, or all of them. */
    private static void throwingChangesNothing() {
        leavesAll("without a sheet", 0);
        leavesAll("without a state", 1);
        leavesAll("with a state", 2);
        leavesAll("with states", 3);
        leavesAll("behind a fault", 4);
        Game game = new Game();
        set(game, 3);
        for (Check.Call call : refused(game.it)) {
            Check.answer(call);
        }
        Check.due("the state goes on", game.it.play(2), 3);
        Check.due("to", game.state(3), "(did (y z) 3), (did x m), (n 2)");
        game.it.put(' ' << 8);
        Check.due("the text is whole", game.it.read(), 0);
    }

    /** "A call for which it comes to something too great [...] changes nothing." */
    private static void throwingChangesNothingTooGreat() {
        Game game = Game.of("(role x)(role y)(init(f a b))(init b)(legal x m)(<=(legal x(m(f ?t)))(true ?t))(legal y n)" + DIGITS
                + "(<=(next(f ?a ?b))(does x m)(d ?a)(d ?b))(<=(next(f ?t))(does x(m ?t))(true b))"
                + "(<=(t ?a ?b ?c)(true(f(f(f a b))))(d ?a)(d ?b)(d ?c))");
        game.it.start();
        String before = told(game);
        Check.due("the moves", game.moves(0), "(m (f (f a b))), (m (f b)), m");
        Check.refuses("play(2)", TOO_GREAT, () -> game.it.play(2));
        Check.due("behind play(2)", told(game), before);
        Check.refuses("explore()", TOO_GREAT, () -> game.it.explore());
        Check.refuses("play(2) again", TOO_GREAT, () -> game.it.play(2));
        Check.refuses("explore() again", TOO_GREAT, () -> game.it.explore());
        Check.due("behind explore()", told(game), before);
        Check.due("play(0)", game.it.play(0), 1);
        Check.due("the state", game.state(1), "(f (f (f a b)))");
        Check.refuses("moves(0)", TOO_GREAT, () -> game.it.moves(0));
        Check.refuses("explore() then", TOO_GREAT, () -> game.it.explore());
        Check.due("the state stays", game.state(1), "(f (f (f a b)))");
        Check.due("start()", game.it.start(), 2);
        Check.due("all is as before", told(game), before);
    }

    /** Promises 8 to 12 tell of the state: the same calls in any order tell the same. */
    private static void answersAreTheSame() {
        Game game = started(GAME);
        String before = told(game);
        Check.due("again", told(game), before);
        game.it.explore();
        game.it.start();
        Check.due("the state by start()", game.state(2), "(n 0), a");
        game.it.play(3);
        game.it.start();
        Check.due("the moves of the state", game.moves(0) + ", " + game.moves(1), "(f m), m, 1, 2, 3");
        Game text = started(GAME);
        text.it.end(0);
        Check.due("the text has no part in the state", text.moves(0), "(f m), m");
        text.append("(((");
        Check.due("nor has what is put", text.it.play(5), 3);
    }

    /** "How the state is held inside the object is free": but objects have nothing in common. */
    private static void objectsOnTheirOwn() {
        Game one = started(GAME);
        Game two = Game.of("(role q)(init z)(legal q w)");
        two.it.start();
        one.it.play(0);
        Check.due("the one", one.state(3), "(did (y z) 1), (did x (f m)), (n 1)");
        Check.due("the other", two.state(1), "z");
        Check.due("the one's moves", one.moves(0), "(f m), m");
        Check.due("the other's", two.moves(0), "w");
        two.it.explore();
        Check.refuses("the one isn't explored by that", NO_STATE, () -> one.it.defect(0));
    }
}

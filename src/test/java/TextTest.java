/** Promises 1 to 3: a new object, put and end. */
final class TextTest {
    private TextTest() {
    }

    public static void main(String[] args) {
        promise1New();
        promise2Put();
        promise2Full();
        promise3End();
        Check.finish("TextTest");
    }

    private static void promise1New() {
        RuleSheets it = new RuleSheets();
        Check.due("NONE", RuleSheets.NONE, -1);
        Check.due("fault() of a new object", it.fault(), -1);
        Check.due("put(0) of a new object", it.put(0), 0);
        Check.refuses("end(1) of a new object", IllegalArgumentException.class, () -> {
            it.end(1);
            return 0;
        });
        Class<IllegalStateException> no = IllegalStateException.class;
        Check.refuses("sheet(0)", no, () -> it.sheet(0));
        Check.refuses("sheet(9)", no, () -> it.sheet(9));
        Check.refuses("start()", no, () -> it.start());
        Check.refuses("moves(-1)", no, () -> it.moves(-1));
        Check.refuses("terminal()", no, () -> it.terminal() ? 1 : 0);
        Check.refuses("goal(0)", no, () -> it.goal(0));
        Check.refuses("play(-1)", no, () -> it.play(-1));
        for (int what = -1; what < 8; what++) {
            int w = what;
            Check.refuses("sign(" + w + ", -1, -1)", no, () -> it.sign(w, -1, -1));
        }
        Check.refuses("explore()", no, () -> it.explore());
        Check.refuses("defect(0)", no, () -> it.defect(0));
        Check.refuses("defect(5)", no, () -> it.defect(5));
        Check.refuses("state(-1, 7)", no, () -> it.state(-1, 7));
        Check.refuses("next(-1, 0)", no, () -> it.next(-1, 0));
        Check.refuses("value(-1)", no, () -> it.value(-1));
        Check.refuses("best(-1)", no, () -> it.best(-1));
        Check.due("read() of an empty text", it.read(), 1);
        Check.due("fault() of an empty text", it.fault(), 0);
        Check.refuses("sheet(0) behind a fault", no, () -> it.sheet(0));
    }

    private static int signs(int a, int b, int c, int d) {
        return a | b << 8 | c << 16 | d << 24;
    }

    private static void promise2Put() {
        Game game = new Game();
        RuleSheets it = game.it;
        Check.due("put of four", it.put(signs('(', 'r', 'o', 'l')), 4);
        Check.due("put of two, the first and third 0", it.put(signs(0, 'e', 0, ' ')), 6);
        Check.due("put of one, the highest", it.put(signs(0, 0, 0, 'x')), 7);
        Check.due("put of none", it.put(0), 7);
        Check.due("put of three", it.put(signs('y', ')', 0, '\n')), 10);
        Check.due("read()", it.read(), 0);
        Check.due("the role", game.text(5, 0), "xy");
        int[] bad = {1, 9, 11, 13, 31, 127, 128, 200, 255};
        for (int sign : bad) {
            for (int place = 0; place < 4; place++) {
                int s = sign << (8 * place) | (place == 0 ? 'a' << 8 : 'a');
                Check.refuses("put(" + s + ")", IllegalArgumentException.class, () -> it.put(s));
            }
        }
        Check.due("nothing came of these", it.put(0), 10);
        Check.due("the edges of the signs", it.put(signs(10, 32, 126, ' ')), 14);
        Check.due("~ begins no token", it.read(), 1);
        Check.due("and stands behind what was", it.fault(), 12);
    }

    private static void promise2Full() {
        RuleSheets it = new RuleSheets();
        for (int i = 0; i < 499; i++) {
            it.put(signs('a', ' ', 'b', ' '));
        }
        Check.due("1999 signs", it.put(signs('a', 'b', 0, 'c')), 1999);
        Check.refuses("four more", UnsupportedOperationException.class,
                () -> it.put(signs('a', 'a', 'a', 'a')));
        Check.refuses("too many, and one bad", IllegalArgumentException.class,
                () -> it.put(signs('a', 'a', 'a', 7)));
        Check.due("nothing came of these", it.put(0), 1999);
        Check.due("one more", it.put(signs(0, ' ', 0, 0)), 2000);
        Check.refuses("2001", UnsupportedOperationException.class, () -> it.put(' '));
        it.end(1996);
        Check.due("four at once to the last", it.put(signs('a', ' ', 'b', ' ')), 2000);
        it.end(1997);
        Check.refuses("four at once beyond", UnsupportedOperationException.class,
                () -> it.put(signs('a', ' ', 'b', ' ')));
        Check.due("three at once to the last", it.put(signs('a', ' ', 'b', 0)), 2000);
        Check.due("read() sees all", it.read(), 1);
        Check.due("the 61st rule", it.fault(), 120);
    }

    private static void promise3End() {
        Game game = new Game();
        game.append("(role abc) x");
        Class<IllegalArgumentException> no = IllegalArgumentException.class;
        int[] bad = {-1, 13, Integer.MAX_VALUE, Integer.MIN_VALUE};
        for (int n : bad) {
            Check.refuses("end(" + n + ")", no, () -> {
                game.it.end(n);
                return 0;
            });
        }
        Check.due("nothing came of these", game.it.put(0), 12);
        game.it.end(12);
        Check.due("end of all", game.it.put(0), 12);
        game.it.end(7);
        Check.due("end(7)", game.it.put(0), 7);
        Check.due("put goes on there", game.it.put(signs('z', ')', 0, 0)), 9);
        Check.due("read()", game.it.read(), 0);
        Check.due("the role", game.text(5, 0), "az");
        game.it.end(0);
        Check.due("end(0)", game.it.put(0), 0);
        Check.due("the sheet doesn't go with the text", game.text(5, 0), "az");
    }
}

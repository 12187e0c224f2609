/** Promises 1 to 6: the text, how it is read, and its faults. */
final class ReadingTest {
    private ReadingTest() {
    }

    public static void main(String[] args) {
        Game game = new Game();
        Check.due("fault of a new object", game.it.fault(), RuleSheets.NONE);
        Check.due("read of nothing", game.it.read(), 1);
        Check.due("fault of nothing", game.it.fault(), 0);
        Check.finish("ReadingTest");
    }
}

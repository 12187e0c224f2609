/** An object under test, with the calls that tests make over and over written short. */
final class Game {
    final RuleSheets it = new RuleSheets();

    /** A new object that has read a sheet without a fault. */
    static Game of(String text) {
        Game game = new Game();
        int fault = game.read(text);
        if (fault != 0) {
            throw new IllegalArgumentException("fault " + fault + " at " + game.it.fault() + ": " + text);
        }
        return game;
    }

    /** What a new object says of a text: the fault and where it is, as "2 at 7"; "0 at -1" is well. */
    static String reading(String text) {
        Game game = new Game();
        int fault = game.read(text);
        return fault + " at " + game.it.fault();
    }

    /** Puts a text in the place of the one before, and reads it. */
    int read(String text) {
        write(text);
        return it.read();
    }

    void write(String text) {
        it.end(0);
        append(text);
    }

    void append(String text) {
        for (int i = 0; i < text.length(); i += 4) {
            int signs = 0;
            for (int k = 0; k < 4 && i + k < text.length(); k++) {
                signs |= text.charAt(i + k) << (8 * k);
            }
            it.put(signs);
        }
    }

    /** The text that sign tells, from its first sign to the 0 behind it. */
    String text(int what, int i) {
        StringBuilder text = new StringBuilder();
        int sign = it.sign(what, i, 0);
        for (int k = 1; sign != 0; k++) {
            text.append((char) sign);
            sign = it.sign(what, i, k);
        }
        return text.toString();
    }

    /** All terms of the state, parted by commas. */
    String state(int many) {
        StringBuilder all = new StringBuilder();
        for (int i = 0; i < many; i++) {
            all.append(i == 0 ? "" : ", ").append(text(0, i));
        }
        return all.toString();
    }

    /** All moves of a role, parted by commas. */
    String moves(int r) {
        StringBuilder all = new StringBuilder();
        int many = it.moves(r);
        for (int i = 0; i < many; i++) {
            all.append(i == 0 ? "" : ", ").append(text(1 + r, i));
        }
        return all.toString();
    }
}

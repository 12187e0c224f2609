import java.util.ArrayList;
import java.util.Collections;
import java.util.List;
import java.util.Map;
import java.util.Random;
import java.util.TreeMap;

/**
 * Runs of calls by chance, each answered by the program and by the oracle, of at most 512 calls, as
 * the document promises nothing of later ones. The seeds are fixed; the first argument tells how
 * many runs, the second the first seed, the third whether the answers that came are listed.
 */
final class OracleTest {
    private static final int RUNS = 2500;
    private static final int MOST_CALLS = 512;

    private final Random random;
    private final Sheets sheets;
    private final RuleSheets it = new RuleSheets();
    private final Oracle oracle = new Oracle();
    private final StringBuilder told = new StringBuilder();
    private int made = 0;
    private static final Map<String, Integer> SEEN = new TreeMap<>();

    private OracleTest(long seed) {
        random = new Random(seed);
        sheets = new Sheets(random);
    }

    public static void main(String[] args) {
        int runs = args.length > 0 ? Integer.parseInt(args[0]) : RUNS;
        long first = args.length > 1 ? Long.parseLong(args[1]) : 1;
        for (long seed = first; seed < first + runs; seed++) {
            OracleTest test = new OracleTest(seed);
            if (!test.run()) {
                System.out.println("seed " + seed + "\n" + test.told);
                System.exit(1);
            }
        }
        if (args.length > 2) {
            SEEN.forEach((what, many) -> System.out.println(many + " " + what));
        }
        Check.finish("OracleTest");
    }

    private boolean run() {
        int readings = 1 + random.nextInt(3);
        for (int i = 0; i < readings; i++) {
            if (!write(sheets.any()) || !same("read()", it::read, oracle::read)
                    || !same("fault()", it::fault, oracle::fault)) {
                return false;
            }
            int calls = 5 + random.nextInt(60);
            for (int c = 0; c < calls; c++) {
                if (!call()) {
                    return false;
                }
            }
            if (!sayMany()) {
                return false;
            }
        }
        return true;
    }

    private boolean write(String text) {
        told.append("---- text\n").append(text).append("\n----\n");
        if (made < MOST_CALLS) {
            made++;
            it.end(0);
            oracle.end(0);
        }
        for (int i = 0; i < text.length(); i += 4) {
            int signs = 0;
            for (int k = 0; k < 4 && i + k < text.length(); k++) {
                signs |= text.charAt(i + k) << (8 * k);
            }
            int put = signs;
            if (!same("put(" + put + ")", () -> it.put(put), () -> oracle.put(put))) {
                return false;
            }
        }
        return true;
    }

    /** A number that is mostly small, at times an edge. */
    private int number(int below) {
        int kind = random.nextInt(20);
        if (kind == 0) {
            return -1 - random.nextInt(2);
        }
        if (kind == 1) {
            return random.nextBoolean() ? Integer.MAX_VALUE : Integer.MIN_VALUE;
        }
        return random.nextInt(below);
    }

    private boolean call() {
        int a = number(5);
        int b = number(3);
        int k = number(12);
        switch (random.nextInt(18)) {
            case 0:
                return same("sheet(" + b + ")", () -> it.sheet(b), () -> oracle.sheet(b));
            case 1:
            case 2:
                return same("start()", it::start, oracle::start);
            case 3:
                return same("moves(" + a + ")", () -> it.moves(a), () -> oracle.moves(a));
            case 4:
                return same("terminal()", () -> it.terminal() ? 1 : 0, () -> oracle.terminal() ? 1 : 0);
            case 5:
                return same("goal(" + a + ")", () -> it.goal(a), () -> oracle.goal(a));
            case 6:
            case 7:
            case 8:
                return same("play(" + b + ")", () -> it.play(b), () -> oracle.play(b));
            case 9:
            case 10:
                int what = number(7);
                return same("sign(" + what + ", " + a + ", " + k + ")", () -> it.sign(what, a, k),
                        () -> oracle.sign(what, a, k));
            case 11:
                return same("explore()", it::explore, oracle::explore);
            case 12:
                return same("defect(" + b + ")", () -> it.defect(b), () -> oracle.defect(b));
            case 13:
                return same("state(" + k + ", " + a + ")", () -> it.state(k, a), () -> oracle.state(k, a));
            case 14:
                return same("next(" + k + ", " + b + ")", () -> it.next(k, b), () -> oracle.next(k, b));
            case 15:
                return same("value(" + k + ")", () -> it.value(k), () -> oracle.value(k));
            case 16:
                return same("best(" + k + ")", () -> it.best(k), () -> oracle.best(k));
            default:
                return same("fault()", it::fault, oracle::fault);
        }
    }

    /** A call that is still to be made. */
    private record Asked(String what, Check.Call mine, Check.Call due) {
    }

    /** Many of the answers that the state and the states can give. */
    private boolean sayMany() {
        List<Asked> ofState = new ArrayList<>();
        for (int what = 0; what < 6; what++) {
            for (int i = 0; i < 4; i++) {
                for (int k = 0; k < 50; k += 1 + random.nextInt(9)) {
                    int w = what;
                    int x = i;
                    int y = k;
                    ofState.add(new Asked("sign(" + w + ", " + x + ", " + y + ")", () -> it.sign(w, x, y),
                            () -> oracle.sign(w, x, y)));
                }
            }
        }
        for (int r = 0; r < 4; r++) {
            int x = r;
            ofState.add(new Asked("moves(" + x + ")", () -> it.moves(x), () -> oracle.moves(x)));
            ofState.add(new Asked("goal(" + x + ")", () -> it.goal(x), () -> oracle.goal(x)));
        }
        return say(ofState, 60) && same("explore()", it::explore, oracle::explore)
                && same("defect(0)", () -> it.defect(0), () -> oracle.defect(0))
                && same("defect(1)", () -> it.defect(1), () -> oracle.defect(1)) && say(ofStates(), 200);
    }

    private List<Asked> ofStates() {
        boolean known = made < MOST_CALLS && !Check.answer(() -> oracle.defect(0)).startsWith("I");
        int many = known ? oracle.explore() : 1;
        List<Asked> all = new ArrayList<>();
        for (int n = 0; n < many; n++) {
            int x = n;
            all.add(new Asked("value(" + x + ")", () -> it.value(x), () -> oracle.value(x)));
            all.add(new Asked("best(" + x + ")", () -> it.best(x), () -> oracle.best(x)));
            for (int w = 0; w < 3; w++) {
                int y = w;
                all.add(new Asked("state(" + x + ", " + y + ")", () -> it.state(x, y), () -> oracle.state(x, y)));
            }
            int joints = known ? oracle.state(x, 2) : 0;
            for (int j = 0; j <= joints; j++) {
                int y = j;
                all.add(new Asked("next(" + x + ", " + y + ")", () -> it.next(x, y), () -> oracle.next(x, y)));
            }
        }
        return all;
    }

    /** Makes some of the calls, in any order. */
    private boolean say(List<Asked> all, int most) {
        Collections.shuffle(all, random);
        boolean well = true;
        for (int i = 0; i < all.size() && i < most; i++) {
            well = well && same(all.get(i).what, all.get(i).mine, all.get(i).due);
        }
        return well;
    }

    /** Whether both answer alike; behind the last call that is promised nothing is called. */
    private boolean same(String what, Check.Call mine, Check.Call due) {
        if (made == MOST_CALLS) {
            return true;
        }
        made++;
        String want = Check.answer(due);
        String got = Check.answer(mine);
        Check.due(what, got, want);
        if (!what.startsWith("put")) {
            told.append(what).append(" = ").append(want).append('\n');
            String kind = what.substring(0, what.indexOf('('));
            boolean kept = kind.equals("read") || what.startsWith("defect(0");
            SEEN.merge(kind + (Character.isLetter(want.charAt(0)) || kept ? " " + want : ""), 1, Integer::sum);
        }
        return got.equals(want);
    }
}

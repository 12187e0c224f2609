import java.util.ArrayList;
import java.util.List;
import java.util.Random;

/** Makes sheets by chance, the same ones for the same seed: games, any rules, and spoilt texts. */
final class Sheets {
    private final Random random;

    Sheets(Random random) {
        this.random = random;
    }

    String any() {
        int kind = random.nextInt(18);
        String text = kind < 4 ? graphGame() : kind < 8 ? anyRules() : kind < 10 ? heapGame()
                : kind < 12 ? bothMove() : kind < 14 ? atLimit() : closures();
        int spoilt = random.nextInt(kind < 10 ? 10 : 30);
        if (spoilt < 3) {
            text = spoilTokens(text);
        } else if (spoilt == 3) {
            text = spoilSigns(text);
        }
        return text.length() > 2000 ? text.substring(0, 2000) : text;
    }

    private String pick(String... all) {
        return all[random.nextInt(all.length)];
    }

    private boolean chance(int of) {
        return random.nextInt(of) == 0;
    }

    /** Two (or another number) walk in turn from place to place; leaves have goals. */
    String graphGame() {
        StringBuilder text = new StringBuilder();
        int roles = chance(8) ? random.nextInt(6) : 2;
        for (int r = 0; r < roles; r++) {
            text.append("(role r").append(r).append(")\n");
        }
        int places = 2 + random.nextInt(9);
        boolean turning = chance(4);
        text.append("(init (at p0)) (init (turn r0))\n");
        if (chance(3)) {
            text.append("(init (step 0)) (next_step 0 1) (next_step 1 2) (next_step 2 3)");
            text.append("(<= (next (step ?y)) (true (step ?x)) (next_step ?x ?y))\n");
            if (chance(2)) {
                text.append("(<= terminal (true (step 3)))\n");
            }
        }
        for (int p = 0; p < places; p++) {
            int edges = random.nextInt(4);
            for (int e = 0; e < edges; e++) {
                int to = turning ? random.nextInt(places) : p + 1 + random.nextInt(3);
                text.append("(edge p").append(p).append(" p").append(to).append(")");
            }
            if (!chance(12)) {
                int goal = 10 * random.nextInt(11);
                int other = chance(15) ? 7 : 100 - goal;
                text.append("(worth p").append(p).append(' ').append(goal);
                text.append(' ').append(other).append(")\n");
            }
        }
        for (int p = places; p < places + 3; p++) {
            text.append("(worth p").append(p).append(" 5").append(p % 2).append(" ");
            text.append(50 - p % 2).append(")");
        }
        text.append("(other r0 r1) (other r1 r0)\n");
        text.append("(<= (inner ?x) (edge ?x ?y))\n");
        text.append("(<= (legal ?r (go ?y)) (true (turn ?r)) (true (at ?x)) (edge ?x ?y))\n");
        text.append("(<= (legal ?r wait) (role ?r) (not (true (turn ?r))))\n");
        text.append("(<= (next (at ?y)) (does ?r (go ?y)))\n");
        text.append("(<= (next (turn ?s)) (true (turn ?r)) (other ?r ?s))\n");
        text.append("(<= terminal (true (at ?x)) (not (inner ?x)))\n");
        text.append("(<= (goal r0 ?n) (true (at ?x)) (worth ?x ?n ?m))\n");
        text.append("(<= (goal r1 ?m) (true (at ?x)) (worth ?x ?n ?m))\n");
        if (chance(6)) {
            text.append("(<= (reach ?x ?y) (edge ?x ?y))");
            text.append("(<= (reach ?x ?z) (edge ?x ?y) (reach ?y ?z))\n");
            text.append("(<= terminal (true (at ?x)) (reach ?x ?x) (not (worth ?x 0 100)))");
        }
        return text.toString();
    }

    /** Heaps of counters; who takes the last one wins, or what chance makes of the rules. */
    String heapGame() {
        int most = 1 + random.nextInt(5);
        StringBuilder text = new StringBuilder("(role x)(role y)");
        text.append("(init (heap a ").append(1 + random.nextInt(most)).append("))");
        text.append("(init (heap b ").append(random.nextInt(most + 1)).append("))(init (turn x))");
        for (int i = 0; i < most; i++) {
            text.append("(s ").append(i).append(' ').append(i + 1).append(")");
        }
        text.append("(<= (less ?a ?b) (s ?a ?b))(<= (less ?a ?c) (s ?b ?c) (less ?a ?b))");
        text.append("(<= (legal ?p (take ?h ?n)) (true (turn ?p)) (true (heap ?h ?m)) (less ?n ?m))");
        text.append("(<= (legal x none) (true (turn y)))(<= (legal y none) (true (turn x)))");
        text.append("(<= (next (heap ?h ?n)) (does ?p (take ?h ?n)))");
        text.append("(<= (touched ?h) (does ?p (take ?h ?n)))");
        text.append("(<= (next (heap ?h ?n)) (true (heap ?h ?n)) (not (touched ?h)))");
        text.append("(<= (next (turn x)) (true (turn y)))(<= (next (turn y)) (true (turn x)))");
        text.append("(<= some (true (heap ?h ?n)) (distinct ?n 0))(<= terminal (not some))");
        String winner = pick("x", "y");
        text.append("(<= (goal ").append(winner).append(" 100) (true (turn y)))");
        text.append("(<= (goal ").append(winner).append(" 0) (true (turn x)))");
        String loser = winner.equals("x") ? "y" : "x";
        text.append("(<= (goal ").append(loser).append(" 000) (true (turn y)))");
        text.append("(<= (goal ").append(loser).append(" 100) (true (turn x)))");
        return text.toString();
    }

    /** Several roles move at once, each as it likes; the state tells what each did last. */
    String bothMove() {
        StringBuilder text = new StringBuilder();
        int roles = 1 + random.nextInt(4);
        for (int r = 0; r < roles; r++) {
            text.append("(role ").append((char) ('a' + r)).append(")");
            int many = 1 + random.nextInt(chance(3) ? 8 : 3);
            for (int m = 0; m < many; m++) {
                String move = m % 3 == 0 ? "m" + m : m % 3 == 1 ? "(m " + m + ")" : "(m " + m + " (x y))";
                text.append("(can ").append((char) ('a' + r)).append(' ').append(move).append(")");
            }
        }
        text.append("(init (n 0))(s 0 1)(s 1 2)(s 2 3)(<= (next (n ?y)) (true (n ?x)) (s ?x ?y))\n");
        text.append("(<= (legal ?r ?m) (can ?r ?m)").append(chance(3) ? " (not (true (did ?r ?m)))" : "");
        text.append(")\n(<= (next (did ?r ?m)) (does ?r ?m))\n");
        text.append("(<= terminal (true (n ").append(1 + random.nextInt(3)).append(")))\n");
        text.append("(<= (goal ?r ").append(pick("50", "050", "100", "33")).append(") (role ?r))\n");
        if (chance(2)) {
            text.append("(<= (goal ?r 100) (true (did ?r m0)))(<= (next ?t) (true ?t)(distinct ?t (n 1)))");
        }
        return text.toString();
    }

    /** Relations that rest on one another and on themselves, in all orders of conditions. */
    String closures() {
        StringBuilder text = new StringBuilder("(role x)(role y)(legal x m)(legal x n)(legal y m)");
        int places = 2 + random.nextInt(4);
        for (int i = 0; i < places; i++) {
            text.append("(v ").append((char) ('a' + i)).append(")");
        }
        text.append("(<= (v (g ?x)) (w ?x))(w a)(w b)\n");
        boolean told = chance(2);
        int edges = 1 + random.nextInt(6);
        for (int i = 0; i < edges; i++) {
            String edge = "(e " + (char) ('a' + random.nextInt(places)) + " "
                    + (chance(8) ? "(g a)" : "" + (char) ('a' + random.nextInt(places))) + ")";
            text.append(told ? "(init " + edge + ")" : edge);
        }
        text.append(told ? "(<= (e ?x ?y) (true (e ?x ?y)))\n" : "\n");
        int rules = 2 + random.nextInt(5);
        for (int i = 0; i < rules; i++) {
            text.append(closureRule(i == 0)).append('\n');
        }
        if (told) {
            text.append("(<= (next (e ?x ?y)) (r ?x ?y) (does x n))(<= (next (e ?y ?x)) (e ?x ?y) (does x m))");
        } else {
            text.append("(<= (init (r ?x ?y)) (r ?x ?y))(<= (next (t ?x ?y)) (t ?x ?y) (does x n))");
        }
        return text.append("(<= terminal (r ?x ?x))(<= (goal x 100) (t a ?x))(<= (goal x 0) (not some))").append("(<= some (t a ?x))(goal y 0)").toString();
    }

    private String closureRule(boolean first) {
        List<String> conditions = new ArrayList<>();
        String head = "(" + (first ? "r" : pick("r", "r", "t")) + " " + pick("?x", "?x", "?z", "(g ?x)") + " "
                + pick("?z", "?z", "?y", "a") + ")";
        int many = first ? 0 : 1 + random.nextInt(2);
        StringBuilder used = new StringBuilder(head);
        for (int i = 0; i < many; i++) {
            String condition = "(" + pick("r", "r", "t") + " " + pick("?x", "?y", "?z", "b") + " "
                    + pick("?y", "?z", "?x", "(g ?x)") + ")";
            conditions.add(condition);
            used.append(condition);
        }
        int plain = (first ? 1 : 0) + random.nextInt(2);
        for (int i = 0; i < plain; i++) {
            conditions.add("(e " + pick("?x", "?y") + " " + pick("?y", "?z", "?x") + ")");
        }
        for (String term : List.of("?x", "?y", "?z", "(g ?x)")) {
            if (used.indexOf(term) >= 0) {
                conditions.add("(v " + term + ")");
            }
        }
        if (chance(4)) {
            conditions.add("(distinct ?x a)");
            conditions.add("(v ?x)");
        }
        java.util.Collections.shuffle(conditions, random);
        return "(<= " + head + " " + String.join(" ", conditions) + ")";
    }

    private String set(String name, int many) {
        StringBuilder text = new StringBuilder();
        for (int i = 0; i < many; i++) {
            text.append("(").append(name).append(' ').append(i).append(")");
        }
        return text.append('\n').toString();
    }

    /** A sheet that comes near one of the limits, on this side or beyond. */
    String atLimit() {
        int a = 5 + random.nextInt(6);
        int b = 5 + random.nextInt(6);
        String text = "(role x)(role y)(init (at 0 0))\n" + set("a", a) + set("b", b);
        switch (random.nextInt(6)) {
            case 0:
                int c = 900 / (a * b) + random.nextInt(3);
                return text + set("c", c) + "(<= (t ?x ?y ?z) (a ?x) (b ?y) (c ?z))"
                        + "(<= (init (f ?x ?y)) (t ?x ?y 1) (t ?x 1 ?y))";
            case 1:
                return text + "(<= (t ?x ?y) (a ?x) (b ?y))"
                        + "(<= (v ?x) (t ?x ?y) (t ?y ?z)" + pick("(t ?z ?u)", "(a ?z)(b ?u)(a ?z)") + ")"
                        + "(<= (init ?x) (v ?x))(<= (next ?x) (a ?x) (true ?y) (distinct ?x ?y))";
            case 2:
                return text + "(<= (t ?x ?y) (a ?x) (b ?y))(<= (init (g ?x ?y)) (t ?x ?y))"
                        + "(<= (next (g ?x ?y)) (t ?x ?y))(<= (next z) (does x ?m))"
                        + "(legal x m)(legal y m)(<= (legal x ?x) (b ?x))(<= terminal (true z))";
            case 3:
                return text + "(" + pick("f", "long_name", "nn") + " 0)(<= (grow 0 zero)) "
                        + "(<= (succ ?x (f ?x)) (true ?x))(legal x m)(legal y m)"
                        + "(<= (next (at ?x ?y)) (true (at ?y ?z)) (a ?x)"
                        + pick("(distinct ?x ?y)", "(distinct ?x 0)", "(not (true (at ?x ?y)))") + ")"
                        + "(<= (next (" + pick("f", "name", "a_name_of_15___") + " ?x)) (true ?x))";
            case 4:
                return text + "(s 0 1)(s 1 2)(s 2 3)(s 3 4)(s 4 5)(s 5 6)(s 6 7)(s 7 8)(s 8 9)(s 9 10)"
                        + "(legal x m)(legal y m)(<= (wrap ?x ?y) (s ?x ?y) (a ?y))"
                        + "(<= (full ?x) (a ?x) (b ?y) (s ?x ?y) (not (a ?y)))"
                        + "(<= (last ?x) (s ?x ?y) (a ?x) (not (a ?y)))"
                        + "(<= (next (at ?v ?y)) (true (at ?x ?y)) (wrap ?x ?v))"
                        + "(<= (next (at 0 ?w)) (true (at ?x ?y)) (last ?x) (s ?y ?w))"
                        + "(<= (next (at 0 0)) (true (at ?x 9)) (last ?x))"
                        + "(<= (next (d ?z)) (true (at 0 9)))".replace("?z", "1")
                        + "(<= (next (d 2)) (true (d 1)))(<= (next (d 3)) (true (d 2)))"
                        + "(<= (next (d 4)) (true (d 3)) (true (at 0 9)))";
            default:
                return text + "(<= (legal x ?x) (a ?x))(<= (legal y ?x) (b ?x) (true ?y)"
                        + pick("(distinct ?x 0)", "(distinct ?x ?y)", "(true (at ?x 0))") + ")"
                        + "(<= (next (at ?x ?y)) (does x ?x) (does y ?y))"
                        + "(<= terminal (true (at " + pick("1 1", "2 3", "?x ?x") + ")))";
        }
    }

    private static final String[] RELATIONS = {"p/1", "q/2", "s/1", "u/2", "v/0", "w/3", "p_/1", "z4/4"};

    /** Any rules over a few names; most are safe, many are recursive or negative. */
    String anyRules() {
        StringBuilder text = new StringBuilder();
        int roles = random.nextInt(4);
        for (int r = 0; r < roles; r++) {
            text.append("(role ").append(pick("r", "rr", "(r a)", "b")).append(") ");
        }
        List<String> heads = new ArrayList<>(List.of("init/1", "next/1", "legal/2", "goal/2", "terminal/0"));
        heads.addAll(List.of(RELATIONS));
        int facts = 2 + random.nextInt(8);
        for (int i = 0; i < facts; i++) {
            text.append(atom(heads.get(random.nextInt(heads.size())), 0)).append('\n');
        }
        int rules = 2 + random.nextInt(14);
        for (int i = 0; i < rules; i++) {
            text.append(rule(heads.get(i < 4 ? i : random.nextInt(heads.size())))).append('\n');
        }
        return text.toString();
    }

    private String rule(String head) {
        int layer = layerOf(head);
        StringBuilder body = new StringBuilder();
        List<String> bound = new ArrayList<>();
        int conditions = random.nextInt(4);
        for (int i = 0; i < conditions; i++) {
            String relation = conditionFor(head, layer);
            String atom = atom(relation, 3);
            for (int v = 0; v < 3; v++) {
                String name = "?" + "xyz".charAt(v);
                if (atom.contains(name)) {
                    bound.add(name);
                }
            }
            body.append(' ').append(atom);
        }
        if (chance(3)) {
            body.append(" (not ").append(safe(atom(conditionFor(head, chance(8) ? layer : layer - 1), 3), bound));
            body.append(")");
        }
        if (chance(3)) {
            body.append(" (distinct ").append(safe(term(1, 3), bound)).append(' ');
            body.append(safe(term(1, 3), bound)).append(")");
        }
        return "(<= " + safe(atom(head, 3), bound) + body + ")";
    }

    /** A relation for a condition: mostly one below the head's own, sometimes any. */
    private String conditionFor(String head, int layer) {
        if (head.startsWith("legal") || head.startsWith("goal") || head.startsWith("terminal")) {
            if (chance(3)) {
                return pick("true/1", "role/1");
            }
            return RELATIONS[random.nextInt(RELATIONS.length)];
        }
        if (head.startsWith("next")) {
            return chance(2) ? pick("true/1", "does/2", "role/1") : RELATIONS[random.nextInt(RELATIONS.length)];
        }
        if (head.startsWith("init")) {
            return RELATIONS[random.nextInt(3)];
        }
        if (chance(4)) {
            return pick("true/1", "true/1", "true/1", "does/2", "legal/2", "init/1");
        }
        int below = Math.max(1, chance(3) ? layer + 1 : layer);
        return RELATIONS[random.nextInt(Math.min(below, RELATIONS.length))];
    }

    private static int layerOf(String relation) {
        for (int i = 0; i < RELATIONS.length; i++) {
            if (RELATIONS[i].equals(relation)) {
                return i;
            }
        }
        return RELATIONS.length;
    }

    private String safe(String text, List<String> bound) {
        if (chance(25)) {
            return text;
        }
        String safe = text;
        for (String name : List.of("?x", "?y", "?z")) {
            if (!bound.contains(name)) {
                safe = safe.replace(name, bound.isEmpty() ? pick("a", "b") : bound.get(0));
            }
        }
        return safe;
    }

    private String atom(String relation, int variables) {
        String name = relation.substring(0, relation.indexOf('/'));
        int many = relation.charAt(relation.length() - 1) - '0';
        if (chance(120)) {
            many = 1 + random.nextInt(4);
        }
        if (many == 0) {
            return name;
        }
        StringBuilder text = new StringBuilder("(").append(name);
        for (int i = 0; i < many; i++) {
            text.append(' ');
            if (name.equals("legal") && i == 0 || name.equals("goal") && i == 0) {
                text.append(variables > 0 && chance(2) ? "?x" : pick("r", "rr", "(r a)", "b"));
            } else if (name.equals("goal") && i == 1) {
                text.append(pick("100", "0", "00", "50", "050", "101", "7", "1000", "a", "?y"));
            } else {
                text.append(term(2, variables));
            }
        }
        String atom = text.append(")").toString();
        return variables == 0 ? atom.replaceAll("\\?[a-z]", "a") : atom;
    }

    private String term(int depth, int variables) {
        if (depth > 0 && chance(4)) {
            StringBuilder text = new StringBuilder("(").append(pick("f", "g", "a", "ab"));
            int many = 1 + random.nextInt(3);
            for (int i = 0; i < many; i++) {
                text.append(' ').append(term(depth - 1, variables));
            }
            return text.append(")").toString();
        }
        if (variables > 0 && !chance(3)) {
            return pick("?x", "?y", "?z");
        }
        return pick("a", "b", "c", "ab", "a_", "a0", "1", "r");
    }

    private static final String[] TOKENS = {"(", ")", "not", "distinct", "<=", "?x", "?", "<", "a", "p",
        "true", "does", "role", "init", "next", "legal", "goal", "terminal", "(not (p a))", "(distinct a b)",
        "?not", "?distinct", "abcdefghijklmnop", "abcdefghijklmnopq", "?abcdefghijklmnopq", "; c\n", "A", "=",
        "(role z)", "(<= (role z))", "(p ?q)", "?v1 ?v2 ?v3 ?v4 ?v5 ?v6 ?v7 ?v8", "((((((((((", "(f (f (f (f (f (f a))))))"};

    /** Takes tokens out, puts others in, or in the place of others. */
    String spoilTokens(String text) {
        List<String> tokens = new ArrayList<>();
        java.util.regex.Matcher m =
                java.util.regex.Pattern.compile("[()]|<=|\\??[a-z0-9_]+|[ \n]+|.").matcher(text);
        while (m.find()) {
            tokens.add(m.group());
        }
        int times = 1 + random.nextInt(3);
        for (int i = 0; i < times && !tokens.isEmpty(); i++) {
            int at = random.nextInt(tokens.size());
            int how = random.nextInt(4);
            if (how == 0) {
                tokens.remove(at);
            } else if (how == 1) {
                tokens.set(at, pick(TOKENS));
            } else if (how == 2) {
                tokens.add(at, pick(TOKENS));
            } else {
                tokens.set(at, tokens.get(random.nextInt(tokens.size())));
            }
        }
        return String.join("", tokens);
    }

    String spoilSigns(String text) {
        StringBuilder signs = new StringBuilder(text);
        int times = 1 + random.nextInt(4);
        for (int i = 0; i < times && signs.length() > 0; i++) {
            int at = random.nextInt(signs.length());
            char sign = chance(8) ? '\n' : (char) (32 + random.nextInt(95));
            if (chance(2)) {
                signs.setCharAt(at, sign);
            } else if (chance(2)) {
                signs.insert(at, sign);
            } else {
                signs.deleteCharAt(at);
            }
        }
        if (chance(4)) {
            signs.setLength(random.nextInt(signs.length() + 1));
        }
        return signs.toString();
    }
}

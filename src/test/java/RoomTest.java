import java.lang.reflect.Array;
import java.lang.reflect.Field;
import java.lang.reflect.Modifier;
import java.util.ArrayDeque;
import java.util.Collections;
import java.util.Deque;
import java.util.IdentityHashMap;
import java.util.Set;

/**
 * What an object keeps is counted, for all calls of a run live in one room. Tables grow by
 * doubling, so what a run makes is at most about twice what is kept at its end.
 */
final class RoomTest {
    private static final long MOST_ELEMENTS = 3_000_000;
    private static final String PLAYED = "(role x)(role y)(init (n 0))(s 0 1)(s 1 2)(legal x (m a))"
            + "(legal y (m b))(<= (next (n ?y)) (true (n ?x)) (s ?x ?y))(<= (next (did ?r ?m)) (does ?r ?m))";

    private RoomTest() {
    }

    public static void main(String[] args) throws IllegalAccessException {
        Game game = new Game();
        long atFirst = count(game.it);
        Check.due("a new object is small, but has " + atFirst, atFirst < 200_000 ? 1 : 0, 1);
        game.read(PLAYED);
        game.it.start();
        game.it.explore();
        for (int i = 0; i < 200; i++) {
            game.it.start();
            game.it.play(0);
            game.it.moves(0);
        }
        Check.due("calls leave nothing behind", count(game.it), atFirst);
        String many = manyTerms();
        Check.due("many terms", game.read(many), 0);
        Check.due("many states", game.it.explore(), 300);
        long then = count(game.it);
        Check.due("many terms, but they take " + then, then < MOST_ELEMENTS ? 1 : 0, 1);
        game.read(many);
        game.it.explore();
        Check.due("they take no more the second time", count(game.it), then);
        System.out.println("elements at first " + atFirst + ", with many terms " + then);
        Check.finish("RoomTest");
    }

    /** 300 states of near 60 deep terms that are all unlike. */
    private static String manyTerms() {
        StringBuilder text = new StringBuilder("(role x)(role y)(legal x m)(legal y m)(init (c 0 0))");
        for (int i = 0; i < 19; i++) {
            text.append("(s ").append(i).append(' ').append(i + 1).append(")");
        }
        for (int i = 0; i < 9; i++) {
            text.append("(k ").append(i).append(")");
        }
        text.append("(<= (next (c ?v ?y)) (true (c ?x ?y)) (s ?x ?v))");
        text.append("(<= (next (c 0 ?w)) (true (c 19 ?y)) (s ?y ?w))");
        for (String name : new String[] {"a", "b", "d", "e", "f"}) {
            text.append("(<= (next (").append(name).append(" (p (q (r (u (v (w ?x ?y) ?k)))))))")
                    .append(" (true (c ?x ?y)) (k ?k))");
        }
        text.append("(<= terminal (true (c 19 14)))");
        return text.toString();
    }

    private static long count(Object root) throws IllegalAccessException {
        Set<Object> seen = Collections.newSetFromMap(new IdentityHashMap<>());
        Deque<Object> open = new ArrayDeque<>();
        open.add(root);
        long elements = 0;
        while (!open.isEmpty()) {
            Object object = open.remove();
            if (!seen.add(object)) {
                continue;
            }
            if (object.getClass().isArray()) {
                elements += Array.getLength(object);
                continue;
            }
            for (Field field : object.getClass().getDeclaredFields()) {
                if (Modifier.isStatic(field.getModifiers())) {
                    continue;
                }
                elements++;
                field.setAccessible(true);
                Object value = field.get(object);
                if (!field.getType().isPrimitive() && value != null) {
                    open.add(value);
                }
            }
        }
        return elements;
    }
}

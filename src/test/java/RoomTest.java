import java.lang.management.ManagementFactory;
import java.lang.reflect.Array;
import java.lang.reflect.Field;
import java.lang.reflect.Modifier;
import java.util.ArrayDeque;
import java.util.Collections;
import java.util.IdentityHashMap;
import java.util.Set;

/** How much room an object takes, and that its calls take none. */
public final class RoomTest {
    private static final String DEAR = "corner a 1 900;corner b 2 900;corner c 3 900;corner d 4 900;corner e 5 900;"
            + "corner f 6 900;corner g 7 900;corner h 8 900;corner i 9 900;corner j 0 900;"
            + "lane a b;lane b c;lane c d;lane d e;lane e f;lane f g;lane g h;lane h i;lane i j;lane j a;"
            + "lane a c;lane b d;lane c e;lane d f;lane e g;lane f h;lane g i;lane h j;lane i a;lane j b;"
            + "guard x a;guard y d;guard z g;beat x a c e g;beat y b d;beat z a j;"
            + "thief s b 1;thief t e 2;thief u h 3;thief v j 4;grip 30;law dread light-far*3+loot/9;";

    public static void main(String[] args) throws Exception {
        ThiefTakers x = Told.of(DEAR);
        for (int k = 0; k < 20; k++) {
            askAll(x);
        }
        com.sun.management.ThreadMXBean threads = (com.sun.management.ThreadMXBean) ManagementFactory.getThreadMXBean();
        long before = threads.getThreadAllocatedBytes(Thread.currentThread().getId());
        for (int k = 0; k < 10; k++) {
            askAll(x);
        }
        long taken = threads.getThreadAllocatedBytes(Thread.currentThread().getId()) - before;
        Told.due("calls take no room (bytes: " + taken + ")", taken < 4096, true);
        size(new ThiefTakers());
        Told.end();
    }

    private static void askAll(ThiefTakers x) {
        Told.feed(x, "corner a 1 9;");
        x.send(0, 1);
        x.bar(3);
        x.drop(1, 1);
        x.keep();
        x.go(1);
        x.back();
        x.see(1, 0, 0, true);
        x.strike(0);
        x.known(-1);
        x.law(0, 0, 0);
        x.ahead(200, 0, 0);
        x.caught(0);
        x.way(0, 5, 1);
        x.reach(0);
        x.parts();
        x.chase(7, 5);
        x.firstGo(7, 5, 0);
        x.flee(3, 5);
        x.takers();
        x.post(1);
        x.sweep(2);
        x.look(3);
        x.dark();
        x.could(0, 60);
        x.unseen(0);
        x.round(0);
        x.wall(0, 5);
        x.drunk(0, 1, 4, 0);
        x.match(0);
        x.rests(0, 1);
        x.holds(6, 0);
        x.bolds(0);
        x.ask(0, 0);
        x.chance(1, 99, 0);
        x.tried(4, 0, 200);
        x.undo();
        x.corner(0, 4);
        x.count(7);
    }

    /** Objects and arrays, fields and elements that hang on the object. */
    private static void size(Object root) throws Exception {
        Set<Object> seen = Collections.newSetFromMap(new IdentityHashMap<>());
        ArrayDeque<Object> queue = new ArrayDeque<>();
        seen.add(root);
        queue.add(root);
        long elements = 0;
        while (!queue.isEmpty()) {
            Object o = queue.poll();
            if (o.getClass().isArray()) {
                elements += Array.getLength(o);
                continue;
            }
            for (Field f : o.getClass().getDeclaredFields()) {
                if (Modifier.isStatic(f.getModifiers())) {
                    continue;
                }
                elements++;
                f.setAccessible(true);
                Object value = f.get(o);
                if (!f.getType().isPrimitive() && value != null && seen.add(value)) {
                    queue.add(value);
                }
            }
        }
        System.out.println("an object: " + seen.size() + " objects and arrays, " + elements + " fields and elements");
        Told.due("objects and arrays", seen.size() < 250, true);
        Told.due("fields and elements", elements < 25000, true);
    }
}

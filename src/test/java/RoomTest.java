import java.lang.reflect.Array;
import java.lang.reflect.Field;
import java.lang.reflect.Modifier;
import java.util.IdentityHashMap;

/** How many objects and how many fields and elements one PeopleLent holds: few when new, and no more by many calls. */
public final class RoomTest {
    private static final Check c = new Check();
    private static int objects;
    private static long elements;

    public static void main(String[] args) throws Exception {
        PeopleLent x = new PeopleLent();
        weigh(x);
        System.out.println("a new one: " + objects + " objects, " + elements + " fields and elements");
        c.due("few objects when new", objects < 150 ? 1 : 0, 1);
        c.due("few elements when new", elements < 5000 ? 1 : 0, 1);
        use(x);
        weigh(x);
        System.out.println("a used one: " + objects + " objects, " + elements + " fields and elements");
        int objectsThen = objects;
        long elementsThen = elements;
        use(x);
        weigh(x);
        c.due("no more objects by more calls", objects, objectsThen);
        c.due("no more elements by more calls", elements, elementsThen);
        long before = allocated();
        for (int i = 0; i < 50; i++) {
            look(x);
        }
        c.due("questions make nothing", allocated() - before < 20000 ? 1 : 0, 1);
        c.finish("RoomTest");
    }

    private static long allocated() {
        return ((com.sun.management.ThreadMXBean) java.lang.management.ManagementFactory.getThreadMXBean())
            .getThreadAllocatedBytes(Thread.currentThread().getId());
    }

    private static void use(PeopleLent x) {
        for (int b = 0; b < 8; b++) {
            x.book(1, 0, b, 500);
        }
        for (int r = 0; r < 6; r++) {
            x.reader(r, 0);
        }
        x.back(0);
        for (int l = 0; l < 6; l++) {
            Check.law(x, "fines 1; wears 2; takes 3; bars if week=1000");
        }
        x.image(0);
        x.image(1);
        for (int i = 0; i < 20; i++) {
            Check.orders(x, "lend 0 to 0 if with 0=0-1; pass times 20; bring 0");
        }
        x.years(1, 60);
        look(x);
    }

    private static void look(PeopleLent x) {
        x.served(3);
        x.turn(0);
        x.way(0, 63, 2);
        x.sets(0, 0, 3);
        x.ask(0, 0, 0);
        x.last(0, 0);
        x.nest(1);
        x.all(1);
        x.owed(2);
        x.whole(20, 99);
        x.years(5, 60);
        x.asks(0, 0, 5);
    }

    private static void weigh(Object one) throws Exception {
        objects = 0;
        elements = 0;
        weighOne(one, new IdentityHashMap<>());
    }

    private static void weighOne(Object one, IdentityHashMap<Object, Boolean> seen) throws Exception {
        if (one == null || seen.put(one, true) != null) {
            return;
        }
        objects++;
        if (one.getClass().isArray()) {
            elements += Array.getLength(one);
            if (one instanceof Object[] many) {
                for (Object inner : many) {
                    weighOne(inner, seen);
                }
            }
            return;
        }
        for (Field field : one.getClass().getDeclaredFields()) {
            if (Modifier.isStatic(field.getModifiers())) {
                continue;
            }
            elements++;
            if (!field.getType().isPrimitive()) {
                field.setAccessible(true);
                weighOne(field.get(one), seen);
            }
        }
    }
}

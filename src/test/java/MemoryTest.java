import java.lang.reflect.Array;
import java.lang.reflect.Field;
import java.lang.reflect.Modifier;
import java.util.IdentityHashMap;
import java.util.Map;

/** What a room holds after its dearest calls; growing by doubling leaves as much again behind. */
public final class MemoryTest {
    private static final long MOST_ELEMENTS = 7300000L;
    private static final long MOST_OBJECTS = 600000L;

    public static void main(String[] args) throws IllegalAccessException {
        Desk desk = new Desk();
        Desk.same("a new room is small", true, measure(desk.room)[1] < 20000);
        String row = "\\rep{50}{\\rep{50}{ink pot }}";
        desk.tell("\\rep{50}{\\rep{50}{ink pot ink pot }}");
        desk.set("@set fill 1\n@pat 1n 1k\n" + row);
        desk.set("|" + row);
        desk.set("= " + row + "\\index{" + row + "}");
        desk.set("x\\note{" + row + "}");
        desk.set("@set wide 80\n\\rep{50}{\\rep{30}{pot-ink }}");
        desk.room.keep();
        for (int i = 0; i < 250; i++) {
            desk.set(Desk.times("\n", 20) + "}");
            desk.room.back();
        }
        long[] held = measure(desk.room);
        System.out.println(held[0] + " objects, " + held[1] + " elements held");
        Desk.same("objects", true, held[0] < MOST_OBJECTS / 10);
        Desk.same("elements", true, held[1] * 2 < MOST_ELEMENTS);
        Desk.close();
    }

    private static long[] measure(Object root) throws IllegalAccessException {
        Map<Object, Boolean> seen = new IdentityHashMap<>();
        long[] sum = new long[2];
        walk(root, seen, sum);
        return sum;
    }

    private static void walk(Object object, Map<Object, Boolean> seen, long[] sum) throws IllegalAccessException {
        if (object == null || object instanceof String || seen.put(object, true) != null) {
            return;
        }
        sum[0]++;
        Class<?> type = object.getClass();
        if (type.isArray()) {
            sum[1] += Array.getLength(object);
            for (int i = 0; !type.getComponentType().isPrimitive() && i < Array.getLength(object); i++) {
                walk(Array.get(object, i), seen, sum);
            }
            return;
        }
        for (Field field : type.getDeclaredFields()) {
            if (!Modifier.isStatic(field.getModifiers())) {
                field.setAccessible(true);
                sum[1]++;
                if (!field.getType().isPrimitive()) {
                    walk(field.get(object), seen, sum);
                }
            }
        }
    }
}

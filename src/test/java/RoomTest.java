import java.lang.management.ManagementFactory;
import java.lang.reflect.Array;
import java.lang.reflect.Field;
import java.lang.reflect.InvocationTargetException;
import java.lang.reflect.Method;
import java.lang.reflect.Modifier;
import java.util.Collections;
import java.util.IdentityHashMap;
import java.util.Random;
import java.util.Set;

/** What an object takes of the room, that calls make nothing, and that no arguments make it throw. */
public final class RoomTest {
    private static final int[] INTS = {Integer.MIN_VALUE, Integer.MIN_VALUE + 1, -65536, -257, -10, -6, -5, -4, -3, -2,
        -1, 0, 1, 2, 3, 4, 5, 6, 7, 8, 9, 10, 12, 15, 16, 25, 26, 39, 40, 41, 63, 64, 65, 99, 100, 255, 256, 999, 1000,
        1499, 1500, 1563, 1600, 1650, 1899, 1900, 65535, 65536, Integer.MAX_VALUE - 1, Integer.MAX_VALUE};
    private static final int MOST_OBJECTS = 80, MOST_ELEMENTS = 4000;

    private static int objects;
    private static int elements;

    public static void main(String[] args) throws IllegalAccessException {
        Set<Object> seen = Collections.newSetFromMap(new IdentityHashMap<>());
        weigh(new FamilyNames(), seen);
        System.out.println(objects + " objects and rows, " + elements + " fields and elements");
        Due.holds("few objects", objects <= MOST_OBJECTS);
        Due.holds("few elements", elements <= MOST_ELEMENTS);
        nothingIsMade();
        for (int seed = 0; seed < 300; seed++) {
            extremes(seed);
        }
        Due.finish();
    }

    private static void weigh(Object object, Set<Object> seen) throws IllegalAccessException {
        if (object == null || object instanceof String || !seen.add(object)) {
            return;
        }
        objects++;
        if (object.getClass().isArray()) {
            elements += Array.getLength(object);
            if (object instanceof Object[] many) {
                for (Object one : many) {
                    weigh(one, seen);
                }
            }
            return;
        }
        for (Field field : object.getClass().getDeclaredFields()) {
            if (!Modifier.isStatic(field.getModifiers())) {
                elements++;
                field.setAccessible(true);
                if (!field.getType().isPrimitive()) {
                    weigh(field.get(object), seen);
                }
            }
        }
    }

    private static FamilyNames filled() {
        FamilyNames x = new FamilyNames();
        for (int s = 0; s < 16; s++) {
            x.spelling(Due.word("abcdefghij") + s);
        }
        for (int p = 0; p < 8; p++) {
            x.place(p, 2 * p);
            x.book(p, 1600, 1663);
        }
        for (int k = 0; k < 36; k++) {
            x.line(k % 8, 1600 + k, k % 16, k % 5);
            x.again(k, (k + 1) % 16);
            x.father(k, k - 20);
        }
        x.sheet(0, 0, 64);
        x.sheet(1, 2, 3);
        return x;
    }

    private static void nothingIsMade() {
        com.sun.management.ThreadMXBean threads = (com.sun.management.ThreadMXBean) ManagementFactory.getThreadMXBean();
        FamilyNames x = filled();
        long sum = askAll(x);
        long before = threads.getThreadAllocatedBytes(Thread.currentThread().getId());
        for (int i = 0; i < 100; i++) {
            sum += askAll(x);
        }
        long made = threads.getThreadAllocatedBytes(Thread.currentThread().getId()) - before;
        Due.holds("calls make nothing, but " + made + " bytes were made (" + sum + ")", made < 100_000);
    }

    private static long askAll(FamilyNames x) {
        long sum = 0;
        for (int s = 0; s < 16; s++) {
            sum += x.sound(s) + x.apart(s, 3) + x.chain(s, 0, 12) + x.starts(s, 3) + x.pace(s) + x.judge(s, 1);
        }
        for (int i = 0; i < 9; i++) {
            sum += x.standing(i) + x.issue(i, 2) + x.related(i, 7) + x.count(i) + x.bearers(0, i, 1600, 1663, 1);
        }
        sum += x.feed(0x64726f7020373b20L) + x.rules() + x.read(0, 1, 2) + x.sheet(2, 1, 9) + x.dies(3, 0);
        return sum;
    }

    private static void extremes(int seed) {
        Random chance = new Random(seed);
        FamilyNames x = seed % 2 == 0 ? new FamilyNames() : filled();
        Method[] methods = FamilyNames.class.getMethods();
        for (int i = 0; i < 2000; i++) {
            Method method = methods[chance.nextInt(methods.length)];
            if (method.getDeclaringClass() == FamilyNames.class) {
                call(x, method, chance);
            }
        }
    }

    private static void call(FamilyNames x, Method method, Random chance) {
        Object[] arguments = new Object[method.getParameterCount()];
        StringBuilder call = new StringBuilder(method.getName());
        for (int i = 0; i < arguments.length; i++) {
            Class<?> type = method.getParameterTypes()[i];
            int v = INTS[chance.nextInt(INTS.length)];
            arguments[i] = type == int.class ? v : type == boolean.class ? (Object) chance.nextBoolean()
                : (Object) (chance.nextBoolean() ? (long) v : chance.nextLong());
            call.append(' ').append(arguments[i]);
        }
        try {
            method.invoke(x, arguments);
        } catch (InvocationTargetException e) {
            Due.holds(call + " threw " + e.getCause(), false);
        } catch (IllegalAccessException e) {
            Due.holds(call + " is not open", false);
        }
    }
}

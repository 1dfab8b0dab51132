import java.lang.reflect.Constructor;
import java.lang.reflect.Field;
import java.lang.reflect.Method;
import java.lang.reflect.Modifier;
import java.util.ArrayList;
import java.util.Collections;
import java.util.List;

/** The public face, as the document writes it, and the room that a run takes. */
final class FaceTest {
    private static final String[] FACE = {
        "boolean put(int, int)", "boolean set(int, int)", "boolean cut(int)", "int size()", "int at(int)",
        "boolean path(int, int)", "boolean step(int, int)", "int insert()", "int fetch(int)", "boolean remove(int)",
        "boolean index(int)", "int entries(int)", "int where(int)", "int anywhere()", "int find()", "int found(int)",
        "int examined()", "int change(int)", "int count()"};

    public static void main(String[] args) throws Exception {
        face();
        nested();
        littleIsMade();
        Check.end();
    }

    private static void face() {
        Check.due("public", Modifier.isPublic(PathShelf.class.getModifiers()), true);
        Check.due("final", Modifier.isFinal(PathShelf.class.getModifiers()), true);
        List<String> open = new ArrayList<>();
        List<String> openNames = new ArrayList<>();
        List<String> hiddenNames = new ArrayList<>();
        for (Method method : PathShelf.class.getDeclaredMethods()) {
            if (Modifier.isPrivate(method.getModifiers())) {
                hiddenNames.add(method.getName());
                continue;
            }
            Check.due(method + " is public", Modifier.isPublic(method.getModifiers()), true);
            String kinds = "";
            for (Class<?> kind : method.getParameterTypes()) {
                kinds += (kinds.isEmpty() ? "" : ", ") + kind.getName();
            }
            open.add(method.getReturnType().getName() + " " + method.getName() + "(" + kinds + ")");
            openNames.add(method.getName());
        }
        List<String> due = new ArrayList<>(List.of(FACE));
        Collections.sort(due);
        Collections.sort(open);
        Check.due("the face " + open, open.equals(due), true);
        Check.due("no private method bears a public one's name", Collections.disjoint(openNames, hiddenNames), true);
        Constructor<?>[] constructors = PathShelf.class.getDeclaredConstructors();
        Check.due("constructors", constructors.length, 1);
        Check.due("its parameters", constructors[0].getParameterCount(), 0);
        Check.due("it is public", Modifier.isPublic(constructors[0].getModifiers()), true);
    }

    private static void nested() {
        List<Class<?>> classes = new ArrayList<>(List.of(PathShelf.class.getDeclaredClasses()));
        classes.add(PathShelf.class);
        Check.due("some twelve classes", classes.size() <= 12, true);
        for (Class<?> each : classes) {
            int fields = 0;
            for (Field field : each.getDeclaredFields()) {
                boolean isStatic = Modifier.isStatic(field.getModifiers());
                fields += isStatic ? 0 : 1;
                Check.due(field + " is no static state", !isStatic || Modifier.isFinal(field.getModifiers()), true);
                Check.due(field + " is hidden", each != PathShelf.class || Modifier.isPrivate(field.getModifiers()), true);
            }
            Check.due(each + " has some twenty fields", fields <= 20, true);
            if (each != PathShelf.class) {
                Check.due(each + " is static", Modifier.isStatic(each.getModifiers()), true);
                Check.due(each + " is not public", Modifier.isPublic(each.getModifiers()), false);
            }
        }
    }

    /**
     * All calls of a run live in one room of 600,000 objects and 7.3 million fields and elements: an object takes
     * a hundredth of it at most, and its calls nothing. What the machine itself makes now and then must not count,
     * so the least of some measures does.
     */
    private static void littleIsMade() {
        long byObject = Long.MAX_VALUE;
        long byCalls = Long.MAX_VALUE;
        for (int k = 0; k < 20; k++) {
            long before = bytesMade();
            PathShelf shelf = new PathShelf();
            long between = bytesMade();
            useUp(shelf);
            byObject = Math.min(byObject, between - before);
            byCalls = Math.min(byCalls, bytesMade() - between);
        }
        Check.due("bytes made by an object: " + byObject, byObject < 73_000 * 4, true);
        Check.due("bytes made by its calls: " + byCalls, byCalls < 1000, true);
    }

    private static long bytesMade() {
        com.sun.management.ThreadMXBean threads =
            (com.sun.management.ThreadMXBean) java.lang.management.ManagementFactory.getThreadMXBean();
        return threads.getThreadAllocatedBytes(Thread.currentThread().getId());
    }

    /** 14 times 35 calls. */
    private static void useUp(PathShelf shelf) {
        for (int k = 0; k < 14; k++) {
            allCalls(shelf);
        }
    }

    private static void allCalls(PathShelf shelf) {
        shelf.put(0x0d016964, 4);
        shelf.put(0x00000501, 4);
        shelf.put(0x61000002, 4);
        shelf.put(0, 1);
        shelf.insert();
        shelf.path('a', 1);
        shelf.index(0);
        shelf.entries(0);
        shelf.put(0x010003, 3);
        shelf.where(2);
        shelf.find();
        shelf.found(0);
        shelf.examined();
        shelf.put(0x010001, 3);
        shelf.change(2);
        shelf.put(0x010001, 3);
        shelf.change(3);
        shelf.change(1);
        shelf.step('b', 1);
        shelf.put(0x010001, 3);
        shelf.change(3);
        shelf.put(0x010001, 3);
        shelf.change(4);
        shelf.put(0x010001, 3);
        shelf.change(0);
        shelf.anywhere();
        shelf.find();
        shelf.fetch(5);
        shelf.at(0);
        shelf.size();
        shelf.set(0, 0);
        shelf.insert();
        shelf.cut(0);
        shelf.remove(5);
        shelf.count();
    }
}

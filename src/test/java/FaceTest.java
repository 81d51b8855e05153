import java.lang.reflect.Array;
import java.lang.reflect.Constructor;
import java.lang.reflect.Field;
import java.lang.reflect.Method;
import java.lang.reflect.Modifier;
import java.util.ArrayDeque;
import java.util.Arrays;
import java.util.IdentityHashMap;
import java.util.TreeSet;

/** The public face, and how much room an object takes. */
public final class FaceTest {
    private static final String[] FACE = {
        "int feed(int,int,int,int,int)", "int end(int)", "int out()", "long outWord(int)", "int make(int,int,int)",
        "int tie(int,int)", "int drop(int)", "int write(int)", "int fill(int,int,int)", "int own(int,int,int,int,int)",
        "int freeze(int,int,int)", "int astray()", "int image()", "long imageWord(int)", "int patch(int,int)",
        "int keep(int)", "int mount()", "int find(int)", "long about(int,int)", "int entry(int,int)",
        "int read(int,long,int)", "int target(int)", "int place(int)"};
    private static final String[] CONSTANTS = {"BAD", "NONE", "THERE", "NOT_FOLDER", "NOT_EMPTY", "FULL"};

    public static void main(String[] args) throws Exception {
        face();
        constants();
        room();
        CheckKit.finish("FaceTest");
    }

    private static void face() {
        TreeSet<String> methods = new TreeSet<>();
        for (Method method : FrozenVolume.class.getDeclaredMethods()) {
            if (!Modifier.isPrivate(method.getModifiers()) && !method.isSynthetic()) {
                String told = Arrays.toString(method.getParameterTypes()).replaceAll("[\\[\\] ]", "");
                methods.add(method.getReturnType() + " " + method.getName() + "(" + told + ")");
                CheckKit.due(method.getName() + " is public alone", method.getModifiers(), Modifier.PUBLIC);
            }
        }
        CheckKit.due("the face " + methods, methods.equals(new TreeSet<>(Arrays.asList(FACE))) ? 1 : 0, 1);
        CheckKit.due("the class", FrozenVolume.class.getModifiers(), Modifier.PUBLIC | Modifier.FINAL);
        Constructor<?>[] made = FrozenVolume.class.getDeclaredConstructors();
        CheckKit.due("one constructor", made.length, 1);
        CheckKit.due("a public one", made[0].getModifiers(), Modifier.PUBLIC);
        CheckKit.due("without parameters", made[0].getParameterCount(), 0);
    }

    private static void constants() throws Exception {
        for (int i = 0; i < CONSTANTS.length; i++) {
            CheckKit.due(CONSTANTS[i], FrozenVolume.class.getField(CONSTANTS[i]).getInt(null), -1 - i);
        }
        for (Field field : FrozenVolume.class.getDeclaredFields()) {
            boolean told = Arrays.asList(CONSTANTS).contains(field.getName());
            CheckKit.due(field.getName(), Modifier.isPrivate(field.getModifiers()) != told ? 1 : 0, 1);
        }
    }

    private static void room() throws Exception {
        FrozenVolume x = new FrozenVolume();
        long fresh = count(x);
        for (int i = 0; i < 100; i++) {
            CheckKit.make(x, 0, 2, "file" + i);
            x.fill(i + 1, i, 500);
            x.freeze(12, i % 16, 0);
            x.mount();
            x.read(1, 0, 16384);
        }
        long used = count(x);
        CheckKit.due("room of a new object: " + fresh, fresh < 2000000 ? 1 : 0, 1);
        CheckKit.due("more of it by 500 calls: " + (used - fresh), used - fresh < 20000 ? 1 : 0, 1);
    }

    /** All fields and elements that can be reached. */
    private static long count(Object from) throws Exception {
        IdentityHashMap<Object, Boolean> seen = new IdentityHashMap<>();
        ArrayDeque<Object> open = new ArrayDeque<>();
        open.add(from);
        long all = 0;
        while (!open.isEmpty()) {
            Object one = open.poll();
            if (seen.put(one, true) != null) {
                continue;
            }
            if (one.getClass().isArray()) {
                int n = Array.getLength(one);
                all += n;
                for (int i = 0; i < n && !one.getClass().getComponentType().isPrimitive(); i++) {
                    if (Array.get(one, i) != null) {
                        open.add(Array.get(one, i));
                    }
                }
                continue;
            }
            for (Field field : one.getClass().getDeclaredFields()) {
                if (!Modifier.isStatic(field.getModifiers())) {
                    field.setAccessible(true);
                    all++;
                    if (!field.getType().isPrimitive() && field.get(one) != null) {
                        open.add(field.get(one));
                    }
                }
            }
        }
        return all;
    }
}

import java.lang.management.ManagementFactory;
import java.lang.reflect.Constructor;
import java.lang.reflect.Field;
import java.lang.reflect.Method;
import java.lang.reflect.Modifier;
import java.util.Set;
import java.util.TreeSet;

/** The public face, the room that a run takes, and odd arguments. */
public final class FaceTest {
    private static final String FACE = "sites(I)Z insert(III)I move(III)I drop(II)I change(III)I "
            + "revert(I)I chance(II)I deliver(II)I lose(II)I twice(II)I sync(II)I tell(II)Z "
            + "sweep(I)I length(I)I at(III)I index(II)I vector(II)I knows(III)I floor(II)I "
            + "post(III)I op(II)I needs(II)I ahead(II)I found(II)I rivals(II)I has(II)Z "
            + "count(II)I place(II)I unlike(II)I edits(II)I settled(II)I feed(IIIII)I script(I)I "
            + "image(I)Z back(I)Z all(I)I";

    private final Check c = new Check();

    public static void main(String[] args) {
        FaceTest t = new FaceTest();
        t.face();
        t.room();
        t.oddArguments();
        t.c.end();
    }

    private void face() {
        Class<MovingList> face = MovingList.class;
        c.due("public and final", true, Modifier.isPublic(face.getModifiers())
                && Modifier.isFinal(face.getModifiers()));
        Set<String> names = new TreeSet<>();
        Set<String> publics = new TreeSet<>();
        for (Method m : face.getDeclaredMethods()) {
            if (Modifier.isPublic(m.getModifiers())) {
                names.add(m.getName());
                publics.add(m.getName() + m.toString().replaceAll(".*\\(|\\).*", "").replaceAll(
                        "int,?", "I").replaceAll("^", "(") + ")"
                        + (m.getReturnType() == int.class ? "I" : "Z"));
            }
        }
        c.dueText("methods", new TreeSet<>(Set.of(FACE.split(" "))).toString(),
                publics.toString());
        for (Method m : face.getDeclaredMethods()) {
            if (!Modifier.isPublic(m.getModifiers()) && !m.isSynthetic()) {
                c.due(m.getName() + " private", true, Modifier.isPrivate(m.getModifiers()));
                c.due(m.getName() + " has a name of its own", false, names.contains(m.getName()));
            }
        }
        for (Field f : face.getDeclaredFields()) {
            boolean constant = f.getName().equals("NONE");
            c.due(f.getName() + " seen", constant, !Modifier.isPrivate(f.getModifiers()));
        }
        c.due("NONE", -1, MovingList.NONE);
        for (Constructor<?> made : face.getDeclaredConstructors()) {
            c.due("constructor", 0, made.getParameterCount());
        }
        for (Class<?> inside : face.getDeclaredClasses()) {
            c.due(inside.getName() + " static", true, Modifier.isStatic(inside.getModifiers()));
        }
    }

    /** No call makes objects, but for the first image of each kind and what at() throws. */
    private void room() {
        com.sun.management.ThreadMXBean bean =
                (com.sun.management.ThreadMXBean) ManagementFactory.getThreadMXBean();
        manyCalls(new MovingList());
        MovingList x = new MovingList();
        long id = Thread.currentThread().getId();
        long start = bean.getThreadAllocatedBytes(id);
        manyCalls(x);
        long bytes = bean.getThreadAllocatedBytes(id) - start;
        c.due("bytes of 512 calls, " + bytes + ", are few", true, bytes < 200_000);
    }

    private static void manyCalls(MovingList x) {
        x.sites(5);
        // 9 calls each time, as many as fit into 512.
        for (int k = 0; k < 56; k++) {
            x.chance(60, k);
            x.image(k & 1);
            x.sweep(k % 5);
            x.settled(-1, 0);
            x.feed(0x616c6c3b, 0x616c6c3b, 0x616c6c3b, 0x616c6c3b, 0x616c6c3b);
            x.script(20);
            x.edits(0, 1);
            x.found(140, -1);
            x.back(k & 1);
        }
    }

    /** Nothing but NoSuchElementException of at() comes out, whatever is asked. */
    private void oddArguments() {
        int[] odd = {Integer.MIN_VALUE, Integer.MIN_VALUE + 1, -101, -100, -1, 0, 1, 4, 5, 39, 40,
            41, 59, 60, 61, 99, 100, 199, 200, 201, 399, 400, 440, 441, 500, 501,
            Integer.MAX_VALUE - 1, Integer.MAX_VALUE};
        MovingList x = new MovingList();
        x.sites(5);
        int calls = 0;
        for (int round = 0; round < 3; round++) {
            x.chance(60, round);
            for (Method m : MovingList.class.getDeclaredMethods()) {
                if (Modifier.isPublic(m.getModifiers())) {
                    calls += callOdd(x, m, odd);
                }
            }
        }
        c.due("calls", true, calls > 0);
    }

    private int callOdd(MovingList x, Method m, int[] odd) {
        int n = m.getParameterCount();
        int calls = 0;
        for (int a : odd) {
            for (int b : odd) {
                Object[] all = {a, b, (a + b) % 7, a - b, b - a};
                Object[] args = java.util.Arrays.copyOf(all, n);
                try {
                    m.invoke(x, args);
                } catch (java.lang.reflect.InvocationTargetException e) {
                    c.due(m.getName() + java.util.Arrays.toString(args) + " throws " + e.getCause(),
                            true, m.getName().equals("at")
                            && e.getCause() instanceof java.util.NoSuchElementException);
                } catch (IllegalAccessException e) {
                    c.due(m.getName() + " can be called", true, false);
                }
                calls++;
            }
        }
        return calls;
    }
}

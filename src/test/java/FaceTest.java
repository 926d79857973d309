import java.lang.management.ManagementFactory;
import java.lang.reflect.Constructor;
import java.lang.reflect.Field;
import java.lang.reflect.Method;
import java.lang.reflect.Modifier;
import java.util.Set;
import java.util.TreeSet;

/** The public face of the document, and the room that a run of calls may take. */
public final class FaceTest {
    private static final String BOUNDS = " throws IndexOutOfBoundsException";
    private static final String ARGUMENT = " IllegalArgumentException";
    private static final String STATE = " IllegalStateException";

    public static void main(String[] args) throws Exception {
        face();
        room();
        Checks.end();
    }

    private static void face() {
        Set<String> due = Set.of(
                "int NONE", "new()",
                "int sample(int int)" + BOUNDS + STATE,
                "int samples(int int int int int)" + BOUNDS + ARGUMENT + STATE,
                "void quality(int) throws" + ARGUMENT,
                "int flush(int)" + BOUNDS,
                "int turn()",
                "int ask()",
                "int deliver(int)" + BOUNDS,
                "int hear(int)" + BOUNDS,
                "void lose(int)" + BOUNDS,
                "int length(int)" + BOUNDS,
                "int air(int int)" + BOUNDS,
                "void spoil(int int int)" + BOUNDS,
                "void mend(int)" + BOUNDS,
                "boolean has(int int)" + BOUNDS,
                "int at(int int)" + BOUNDS,
                "int qualityAt(int int)" + BOUNDS,
                "int gaps(int)" + BOUNDS,
                "int gap(int int boolean)" + BOUNDS,
                "int count(int int)" + BOUNDS + ARGUMENT,
                "int total(int) throws" + ARGUMENT);
        Checks.due("the face", visible().toString(), new TreeSet<>(due).toString());
        int modifiers = QuakeLink.class.getModifiers();
        Checks.due("public and final", Modifier.isPublic(modifiers) && Modifier.isFinal(modifiers), true);
    }

    /** All members but the private ones. */
    private static Set<String> visible() {
        Set<String> seen = new TreeSet<>();
        for (Field field : QuakeLink.class.getDeclaredFields()) {
            if (!Modifier.isPrivate(field.getModifiers())) {
                seen.add(field.getType() + " " + field.getName());
            }
        }
        for (Constructor<?> made : QuakeLink.class.getDeclaredConstructors()) {
            seen.add("new(" + names(made.getParameterTypes()) + ")");
        }
        for (Method method : QuakeLink.class.getDeclaredMethods()) {
            if (!Modifier.isPrivate(method.getModifiers())) {
                String thrown = names(method.getExceptionTypes());
                seen.add(method.getReturnType() + " " + method.getName() + "(" + names(method.getParameterTypes())
                        + ")" + (thrown.isEmpty() ? "" : " throws " + thrown));
            }
        }
        return seen;
    }

    private static String names(Class<?>[] types) {
        StringBuilder text = new StringBuilder();
        for (Class<?> type : types) {
            text.append(text.length() == 0 ? "" : " ").append(type.getSimpleName());
        }
        return text.toString();
    }

    /** The room has 7.3 million fields and elements, in the new objects four bytes each but for a few. */
    private static void room() {
        long empty = allocatedBy(0);
        Checks.due("bytes of 512 new objects: " + empty, empty < 30_000_000, true);
        long full = allocatedBy(1);
        Checks.due("bytes of a run that fills an object: " + full, full < 3_000_000, true);
    }

    private static long allocatedBy(int what) {
        com.sun.management.ThreadMXBean threads =
                (com.sun.management.ThreadMXBean) ManagementFactory.getThreadMXBean();
        long id = Thread.currentThread().getId();
        fill(what);
        long before = threads.getThreadAllocatedBytes(id);
        fill(what);
        return threads.getThreadAllocatedBytes(id) - before;
    }

    private static void fill(int what) {
        if (what == 0) {
            for (int k = 0; k < 512; k++) {
                new QuakeLink();
            }
            return;
        }
        QuakeLink x = new QuakeLink();
        for (int k = 0; k < 64; k++) {
            x.samples(k % 4, 2000, k, 0, 0);
            x.deliver(x.turn());
            x.deliver(x.turn());
        }
        for (int k = 0; k < 96; k++) {
            x.ask();
            x.turn();
        }
    }
}

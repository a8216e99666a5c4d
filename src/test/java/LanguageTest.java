import java.lang.management.ManagementFactory;
import java.lang.reflect.Constructor;
import java.lang.reflect.Field;
import java.lang.reflect.Method;
import java.lang.reflect.Modifier;
import java.util.ArrayList;
import java.util.List;
import java.util.Set;
import java.util.TreeSet;

/** The public face as the document tells it, what the classes inside hold, and the room that calls take. */
public final class LanguageTest {
    private static final String FACE = "int feed(int,int)|int wipe()|int text()|int steps(int)|int step(int,int,int)"
        + "|int as(int,int,int)|int change(int,int,int)|int cell(int,int)|int machine(int)|int hand(int,int)|int clear()"
        + "|int states()|int ends()|int result(int)|int orders()|int inOrder(int)|int bad()|int worst()|int turn(int)"
        + "|int stuck()|int round()|int heal(int,int)|int fences()|int cost(int)|int played(int)|int judge(int)|int moves(int)"
        + "|int after(int,int)|int sheet(int,int,int)|long write(int,int,long)|int copy(int,int,int,int,int)|int lead(int)"
        + "|int image()|int undo()|int tear()|int look(int)|int status(int)";

    private static final List<String> wrong = new ArrayList<>();

    private static void check(boolean holds, String what) {
        if (!holds) {
            wrong.add(what);
        }
    }

    private static String shape(Method m) {
        StringBuilder t = new StringBuilder(m.getReturnType().getSimpleName() + " " + m.getName() + "(");
        for (int i = 0; i < m.getParameterCount(); i++) {
            t.append(i == 0 ? "" : ",").append(m.getParameterTypes()[i].getSimpleName());
        }
        return t.append(')').toString();
    }

    private static void face() {
        Set<String> want = new TreeSet<>(List.of(FACE.split("\\|")));
        Set<String> got = new TreeSet<>();
        Set<String> names = new TreeSet<>();
        for (Method m : ManyHands.class.getDeclaredMethods()) {
            if (Modifier.isPublic(m.getModifiers())) {
                got.add(shape(m));
                names.add(m.getName());
                check(!Modifier.isStatic(m.getModifiers()), "static: " + m);
            } else {
                check(Modifier.isPrivate(m.getModifiers()), "not private: " + m);
            }
        }
        check(want.equals(got), "rule 1: the face is " + got);
        check(Modifier.isFinal(ManyHands.class.getModifiers()) && Modifier.isPublic(ManyHands.class.getModifiers()), "public final");
        Constructor<?>[] made = ManyHands.class.getDeclaredConstructors();
        check(made.length == 1 && made[0].getParameterCount() == 0 && Modifier.isPublic(made[0].getModifiers()), "one constructor");
        List<Class<?>> classes = new ArrayList<>(List.of(ManyHands.class.getDeclaredClasses()));
        check(classes.size() + 1 <= 12, "rule 11: classes");
        for (Class<?> c : classes) {
            check(Modifier.isStatic(c.getModifiers()), "rule 2: not static " + c);
            for (Method m : c.getDeclaredMethods()) {
                check(!names.contains(m.getName()), "rule 1: a name of the face: " + m);
            }
        }
        classes.add(ManyHands.class);
        for (Class<?> c : classes) {
            members(c);
        }
    }

    private static void members(Class<?> c) {
        int fields = 0;
        for (Field f : c.getDeclaredFields()) {
            boolean isStatic = Modifier.isStatic(f.getModifiers());
            fields += isStatic ? 0 : 1;
            check(!isStatic || Modifier.isFinal(f.getModifiers()), "rule 5: " + f);
            Class<?> type = f.getType().isArray() ? f.getType().getComponentType() : f.getType();
            check(!isStatic || type.isPrimitive() || type == String.class, "rule 5: " + f);
            check(c != ManyHands.class || Modifier.isPrivate(f.getModifiers()), "rule 1: " + f);
        }
        check(fields <= 20, "rule 11: fields of " + c);
        for (Method m : c.getDeclaredMethods()) {
            check(m.getParameterCount() <= 7, "rule 11: parameters of " + m);
            check(!m.isSynthetic(), "rule 2: made by the compiler: " + m);
        }
    }

    /** The dearest calls, 500 of them: a run has room for 7.3 million elements, of which calls take none. */
    private static void room() {
        if (!(ManagementFactory.getThreadMXBean() instanceof com.sun.management.ThreadMXBean)) {
            return;
        }
        com.sun.management.ThreadMXBean counter = (com.sun.management.ThreadMXBean) ManagementFactory.getThreadMXBean();
        long thread = Thread.currentThread().getId();
        long begin = counter.getThreadAllocatedBytes(thread);
        ManyHands x = new ManyHands();
        long made = counter.getThreadAllocatedBytes(thread);
        for (String text : new String[] {"put 0 1;keep;put 1 1", "read 1;keep;read 0", "put 1 2;read 0;put 2 1"}) {
            for (int i = 0; i < text.length(); i++) {
                x.feed(text.charAt(i), 1);
            }
            x.hand(x.text(), -1);
        }
        x.machine(1);
        for (int i = 0; i < 50; i++) {
            check(x.heal(0, 0) >= 0 && x.fences() != 0 && x.states() > 0 && x.bad() > 0, "room: there is something to do");
            check(x.stuck() == 0 && x.round() == 0 && x.lead(0) > 0 && x.judge(0) == 1, "room: there is a turn");
            check(x.image() == 1 && x.undo() == 3, "room: there is an image");
        }
        long done = counter.getThreadAllocatedBytes(thread);
        // The Java machine itself may take a little while it warms up; a row of 6000 each time would show.
        check(made - begin < 1000000, "rule 12: an object takes " + (made - begin) + " bytes");
        check(done - made < 100000, "rule 12: calls take " + (done - made) + " bytes");
    }

    public static void main(String[] args) {
        face();
        room();
        for (String what : wrong) {
            System.out.println("not as it should be: " + what);
        }
        System.out.println(wrong.isEmpty() ? "the face is as told, and the room is enough" : wrong.size() + " things are not as they should be");
        if (!wrong.isEmpty()) System.exit(1);
    }
}

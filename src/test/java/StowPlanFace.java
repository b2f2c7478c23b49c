import java.lang.reflect.Constructor;
import java.lang.reflect.Field;
import java.lang.reflect.Method;
import java.lang.reflect.Modifier;
import java.util.Arrays;
import java.util.Set;
import java.util.TreeSet;

/** The public face is the document's, member by member, and all else is private. */
public final class StowPlanFace {
    private static final String[] FACE = {
        "public static final int StowPlan.NONE",
        "public StowPlan(int,int,int)",
        "public int StowPlan.box(int,int,int,int)"
            + " throws java.lang.IllegalArgumentException,java.lang.IllegalStateException",
        "public boolean StowPlan.put(int,int,int,int) throws java.lang.IndexOutOfBoundsException",
        "public boolean StowPlan.take(int)",
        "public boolean StowPlan.load(int,int)",
        "public boolean StowPlan.plug(int,int,int,boolean) throws java.lang.IndexOutOfBoundsException",
        "public boolean StowPlan.apart(int,int,boolean)",
        "public int StowPlan.check()",
        "public int StowPlan.fault(int,int) throws java.lang.IndexOutOfBoundsException",
        "public int StowPlan.over(int) throws java.lang.IllegalArgumentException",
        "public int StowPlan.fill(int) throws java.lang.IndexOutOfBoundsException",
        "public int StowPlan.at(int,int,int) throws java.lang.IndexOutOfBoundsException",
        "public int StowPlan.look(int,int) throws java.lang.IndexOutOfBoundsException",
        "public int StowPlan.count(int)",
    };

    private static int wrong = 0;

    private static void tell(String text) {
        wrong++;
        System.out.println(text);
    }

    private static Set<String> visibleMembers() {
        Set<String> seen = new TreeSet<>();
        for (Field f : StowPlan.class.getDeclaredFields()) {
            if (!Modifier.isPrivate(f.getModifiers())) {
                seen.add(f.toString());
            }
        }
        for (Constructor<?> c : StowPlan.class.getDeclaredConstructors()) {
            if (!Modifier.isPrivate(c.getModifiers())) {
                seen.add(c.toString());
            }
        }
        for (Method m : StowPlan.class.getDeclaredMethods()) {
            if (!Modifier.isPrivate(m.getModifiers())) {
                seen.add(m.toString());
            }
        }
        return seen;
    }

    private static void checkPrivateNames() {
        Set<String> open = new TreeSet<>();
        for (Method m : StowPlan.class.getDeclaredMethods()) {
            if (Modifier.isPublic(m.getModifiers())) {
                open.add(m.getName());
            }
        }
        for (Method m : StowPlan.class.getDeclaredMethods()) {
            if (Modifier.isPrivate(m.getModifiers()) && open.contains(m.getName())) {
                tell("a private method bears a public one's name: " + m);
            }
            if (m.getParameterCount() > 7) {
                tell("more than seven parameters: " + m);
            }
        }
    }

    private static void checkStaticFields() {
        for (Field f : StowPlan.class.getDeclaredFields()) {
            if (Modifier.isStatic(f.getModifiers()) && !Modifier.isFinal(f.getModifiers())) {
                tell("a static field is not final: " + f);
            }
        }
    }

    public static void main(String[] args) {
        Set<String> due = new TreeSet<>(Arrays.asList(FACE));
        Set<String> seen = visibleMembers();
        for (String member : due) {
            if (!seen.contains(member)) {
                tell("missing: " + member);
            }
        }
        for (String member : seen) {
            if (!due.contains(member)) {
                tell("not of the document: " + member);
            }
        }
        int modifiers = StowPlan.class.getModifiers();
        if (!Modifier.isPublic(modifiers) || !Modifier.isFinal(modifiers)) {
            tell("the class is not public and final");
        }
        for (Class<?> inside : StowPlan.class.getDeclaredClasses()) {
            if (!Modifier.isStatic(inside.getModifiers()) || Modifier.isPublic(inside.getModifiers())) {
                tell("a class inside is not static, or public: " + inside);
            }
        }
        checkPrivateNames();
        checkStaticFields();
        System.out.println(wrong == 0 ? "the face is the document's" : wrong + " things of the face are wrong");
        if (wrong != 0) {
            System.exit(1);
        }
    }
}

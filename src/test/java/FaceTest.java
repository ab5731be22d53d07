import java.lang.reflect.Constructor;
import java.lang.reflect.Field;
import java.lang.reflect.Method;
import java.lang.reflect.Modifier;
import java.util.Set;
import java.util.TreeSet;

/** The public face is the document's, and no member beside it can be seen from outside. */
public final class FaceTest {
    private static final Set<String> FACE = new TreeSet<>(Set.of(
        "public static final int NullGuard.NONE",
        "public NullGuard()",
        "public boolean NullGuard.type(long)",
        "public void NullGuard.wipe()",
        "public int NullGuard.length()",
        "public boolean NullGuard.declare(int,boolean)",
        "public int NullGuard.statements()",
        "public int NullGuard.alarms()",
        "public int NullGuard.alarm(int)",
        "public int NullGuard.sure(int,int)",
        "public boolean NullGuard.linked(int,int)",
        "public int NullGuard.run(int,long)",
        "public int NullGuard.held(int)",
        "public int NullGuard.field(int,int)",
        "public int NullGuard.objects()",
        "public int NullGuard.steps()"));

    public static void main(String[] args) {
        Due.is("the class is public", true, Modifier.isPublic(NullGuard.class.getModifiers()));
        Due.is("the class is final", true, Modifier.isFinal(NullGuard.class.getModifiers()));
        seenFromOutside();
        classesInside();
        namesOfPrivateMethods();
        staticFields();
        objectsApart();
        Due.end("FaceTest");
    }

    private static void seenFromOutside() {
        Set<String> seen = new TreeSet<>();
        for (Field field : NullGuard.class.getDeclaredFields()) {
            addIfSeen(seen, field.getModifiers(), field.toString());
        }
        for (Constructor<?> constructor : NullGuard.class.getDeclaredConstructors()) {
            addIfSeen(seen, constructor.getModifiers(), constructor.toString());
        }
        for (Method method : NullGuard.class.getDeclaredMethods()) {
            addIfSeen(seen, method.getModifiers(), method.toString());
        }
        for (String member : FACE) {
            Due.is("there is " + member, true, seen.contains(member));
        }
        for (String member : seen) {
            Due.is("the document has " + member, true, FACE.contains(member));
        }
    }

    private static void addIfSeen(Set<String> seen, int modifiers, String member) {
        if (!Modifier.isPrivate(modifiers)) {
            seen.add(member);
        }
    }

    private static void classesInside() {
        for (Class<?> inside : NullGuard.class.getDeclaredClasses()) {
            int modifiers = inside.getModifiers();
            Due.is(inside + " is static", true, Modifier.isStatic(modifiers));
            Due.is(inside + " is hidden", false, Modifier.isPublic(modifiers) || Modifier.isProtected(modifiers));
        }
    }

    private static void namesOfPrivateMethods() {
        Set<String> names = new TreeSet<>();
        for (Method method : NullGuard.class.getDeclaredMethods()) {
            boolean isPublic = Modifier.isPublic(method.getModifiers());
            Due.is("one method alone is named " + method.getName(), true, names.add(method.getName()));
            Due.is(method + " is public or private", true, isPublic || Modifier.isPrivate(method.getModifiers()));
        }
        for (Class<?> inside : NullGuard.class.getDeclaredClasses()) {
            for (Method method : inside.getDeclaredMethods()) {
                Due.is(method + " has a name of its own", false, names.contains(method.getName()));
            }
        }
    }

    private static void staticFields() {
        staticFieldsAreFinal(NullGuard.class);
        for (Class<?> inside : NullGuard.class.getDeclaredClasses()) {
            staticFieldsAreFinal(inside);
        }
    }

    private static void staticFieldsAreFinal(Class<?> owner) {
        for (Field field : owner.getDeclaredFields()) {
            int modifiers = field.getModifiers();
            Due.is(field + " is final if static", true, !Modifier.isStatic(modifiers) || Modifier.isFinal(modifiers));
        }
    }

    /** Whatever is done with one object, the others are as they were, and a new one is new. */
    private static void objectsApart() {
        NullGuard one = Due.typed("a=N;a.h=a;");
        NullGuard other = Due.typed("b=a.g;");
        one.declare(1, true);
        one.run(0, 0);
        Due.is("alarms of the other", 1, other.alarms());
        Due.is("steps of the other", NullGuard.NONE, other.steps());
        Due.is("run of the other", 1, other.run(0, 0));
        other.declare(0, true);
        other.wipe();
        Due.is("length of the one", 10, one.length());
        Due.sureAre(one, 10, "22111");
        Due.linkedAre(one, 10, "a....");
        Due.is("held by the one", 1, one.held(0));
        Due.is("steps of the one", 2, one.steps());
        NullGuard fresh = new NullGuard();
        Due.is("length of a new one", 0, fresh.length());
        Due.sureAre(fresh, 0, "11111");
        Due.is("objects of a new one", 0, fresh.objects());
    }
}

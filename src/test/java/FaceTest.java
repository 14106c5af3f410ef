import java.lang.reflect.Constructor;
import java.lang.reflect.Field;
import java.lang.reflect.Method;
import java.lang.reflect.Modifier;
import java.util.Set;
import java.util.TreeSet;

/** The class has the document's face and no other member that can be seen. */
public final class FaceTest {
    public static void main(String[] args) {
        Due due = new Due("the face");
        Set<String> want = new TreeSet<>(Set.of(
            "public static final int SampleTracker.NONE",
            "public SampleTracker(int)",
            "public int SampleTracker.register(int,long)",
            "public int SampleTracker.aliquot(int,int,long)",
            "public int SampleTracker.move(int,int)",
            "public int SampleTracker.discard(int)",
            "public int SampleTracker.undo()",
            "public int SampleTracker.compact()",
            "public int SampleTracker.cut(int)",
            "public int SampleTracker.recover()",
            "public int SampleTracker.octet(int,int)",
            "public int SampleTracker.sample(int,int)",
            "public long SampleTracker.volume(int)",
            "public int SampleTracker.well(int)",
            "public long SampleTracker.total(int,int)",
            "public int SampleTracker.count(int)"));
        Set<String> seen = new TreeSet<>();
        Set<String> names = new TreeSet<>();
        Class<?> face = SampleTracker.class;
        for (Field field : face.getDeclaredFields()) {
            if (!Modifier.isPrivate(field.getModifiers())) {
                seen.add(field.toString());
            }
        }
        for (Constructor<?> constructor : face.getDeclaredConstructors()) {
            seen.add(constructor.toString());
        }
        for (Method method : face.getDeclaredMethods()) {
            if (Modifier.isPrivate(method.getModifiers())) {
                names.add(method.getName());
            } else {
                seen.add(method.toString());
            }
        }
        System.out.println(seen.equals(want) ? "the face is the document's" : "the face is " + seen);
        due.holds("the face is the document's", seen.equals(want));
        due.holds("the class is public and final",
            (face.getModifiers() & (Modifier.PUBLIC | Modifier.FINAL)) == (Modifier.PUBLIC | Modifier.FINAL));
        for (Method method : face.getMethods()) {
            due.holds("no private method is called " + method.getName(), !names.contains(method.getName()));
        }
        for (Class<?> inside : face.getDeclaredClasses()) {
            due.holds(inside + " is static", Modifier.isStatic(inside.getModifiers()));
            due.holds(inside + " is not public",
                !Modifier.isPublic(inside.getModifiers()) && !Modifier.isProtected(inside.getModifiers()));
            due.holds(inside + " has some twenty fields", inside.getDeclaredFields().length <= 20);
        }
        due.holds("some twelve classes", face.getDeclaredClasses().length < 12);
        due.end();
    }
}

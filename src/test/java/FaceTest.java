import java.lang.reflect.Constructor;
import java.lang.reflect.Field;
import java.lang.reflect.Member;
import java.lang.reflect.Method;
import java.lang.reflect.Modifier;
import java.util.Set;
import java.util.TreeSet;

/** The public face: just what the document lists, and nothing else that can be seen. */
public final class FaceTest {
    public static void main(String[] args) {
        Check.test("The class is public and final, and stands alone", FaceTest::theClass);
        Check.test("The public face, and no other visible member", FaceTest::visibleMembers);
        Check.end();
    }

    private static void theClass() {
        Class<?> face = GroupedReader.class;
        Check.same("modifiers", face.getModifiers(), Modifier.PUBLIC | Modifier.FINAL);
        Check.same("superclass", face.getSuperclass(), Object.class);
        Check.same("number of interfaces", face.getInterfaces().length, 0);
        Check.same("number of nested classes", face.getDeclaredClasses().length, 0);
    }

    private static void visibleMembers() {
        Class<?> face = GroupedReader.class;
        Set<String> visible = new TreeSet<>();
        for (Constructor<?> constructor : face.getDeclaredConstructors()) {
            addIfVisible(visible, constructor, constructor.toString());
        }
        for (Method method : face.getDeclaredMethods()) {
            addIfVisible(visible, method, method.toString());
        }
        for (Field field : face.getDeclaredFields()) {
            addIfVisible(visible, field, field.toString());
        }
        Check.same("visible members", visible, new TreeSet<>(Set.of(
            "public GroupedReader()",
            "public int GroupedReader.feed(char)",
            "public boolean GroupedReader.complete()",
            "public long GroupedReader.value()")));
    }

    private static void addIfVisible(Set<String> visible, Member member, String text) {
        if (!Modifier.isPrivate(member.getModifiers())) {
            visible.add(text);
        }
    }
}

import java.lang.reflect.Constructor;
import java.lang.reflect.Field;
import java.lang.reflect.Method;
import java.lang.reflect.Modifier;
import java.util.Set;
import java.util.TreeSet;

/** The class has the document's face and no other member that is not private. */
public final class FaceTest {
    public static void main(String[] args) {
        Set<String> found = new TreeSet<>();
        for (Constructor<?> constructor : WordSmith.class.getDeclaredConstructors()) {
            found.add(constructor.toString());
        }
        for (Method method : WordSmith.class.getDeclaredMethods()) {
            if (!Modifier.isPrivate(method.getModifiers()) && !method.isSynthetic()) {
                found.add(method.toString());
            }
        }
        for (Field field : WordSmith.class.getDeclaredFields()) {
            if (!Modifier.isPrivate(field.getModifiers()) && !field.isSynthetic()) {
                found.add(field.toString());
            }
        }
        Set<String> due = new TreeSet<>(Set.of(
                "public WordSmith()",
                "public boolean WordSmith.type(int,int)",
                "public int WordSmith.run()",
                "public int WordSmith.count(int)",
                "public int WordSmith.stack(int)",
                "public int WordSmith.out(int)",
                "public int WordSmith.cell(int)",
                "public int WordSmith.disk(int,int)",
                "public int WordSmith.items(int)",
                "public int WordSmith.buffer(int)"));
        boolean isFinal = Modifier.isFinal(WordSmith.class.getModifiers());
        Talk t = new Talk("the face").due("final", isFinal ? 1 : 0, 1);
        t.due(found + " against " + due, found.equals(due) ? 1 : 0, 1);
        Talk.end();
    }
}

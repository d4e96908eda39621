import java.lang.reflect.Constructor;
import java.lang.reflect.Field;
import java.lang.reflect.Method;
import java.lang.reflect.Modifier;
import java.util.Arrays;
import java.util.Set;
import java.util.TreeSet;

/** The public face is the document's, and no more (rule 1 of LANGUAGE.md). */
public final class FaceTest {
    private static final String[] DUE = {
        "public static final int SelectiveLink.NONE",
        "public SelectiveLink()",
        "public void SelectiveLink.begin(int,int,int) throws java.lang.IllegalArgumentException",
        "public boolean SelectiveLink.send(int)",
        "public int SelectiveLink.tick()",
        "public int SelectiveLink.comeToB()",
        "public int SelectiveLink.comeToA()",
        "public boolean SelectiveLink.lose(int) throws java.lang.IllegalArgumentException",
        "public boolean SelectiveLink.change(int,int) throws java.lang.IllegalArgumentException",
        "public boolean SelectiveLink.twice(int) throws java.lang.IllegalArgumentException",
        "public boolean SelectiveLink.delay(int) throws java.lang.IllegalArgumentException",
        "public int SelectiveLink.delivered()",
        "public int SelectiveLink.word(int) throws java.lang.IndexOutOfBoundsException",
        "public long SelectiveLink.frame(int,int,int) throws java.lang.IllegalArgumentException,"
            + "java.lang.IndexOutOfBoundsException",
        "public int SelectiveLink.told(int) throws java.lang.IllegalArgumentException",
        "public int SelectiveLink.sum(long)",
    };

    public static void main(String[] args) {
        Set<String> open = new TreeSet<>();
        Set<String> hidden = new TreeSet<>();
        Set<String> shown = new TreeSet<>();
        for (Field field : SelectiveLink.class.getDeclaredFields()) {
            if (!Modifier.isPrivate(field.getModifiers())) {
                open.add(field.toGenericString());
            }
        }
        for (Constructor<?> constructor : SelectiveLink.class.getDeclaredConstructors()) {
            if (!Modifier.isPrivate(constructor.getModifiers())) {
                open.add(constructor.toGenericString());
            }
        }
        for (Method method : SelectiveLink.class.getDeclaredMethods()) {
            if (Modifier.isPrivate(method.getModifiers())) {
                hidden.add(method.getName());
            } else {
                open.add(method.toGenericString());
                shown.add(method.getName());
            }
        }
        for (Class<?> inside : SelectiveLink.class.getDeclaredClasses()) {
            Check.due(inside + " is static", Modifier.isStatic(inside.getModifiers()), true);
            Check.due(inside + " is public", Modifier.isPublic(inside.getModifiers()), false);
        }
        Set<String> due = new TreeSet<>(Arrays.asList(DUE));
        if (!open.equals(due)) {
            System.out.println("the face is " + open + ", due is " + due);
        }
        Check.due("the face is the document's", open.equals(due), true);
        hidden.retainAll(shown);
        Check.due("private methods with a public name " + hidden, hidden.size(), 0);
        int modifiers = SelectiveLink.class.getModifiers();
        Check.due("public final", Modifier.isPublic(modifiers) && Modifier.isFinal(modifiers), true);
        Check.due("NONE", SelectiveLink.NONE, -1);
        Check.finish();
    }
}

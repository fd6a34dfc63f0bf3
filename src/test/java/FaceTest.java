import java.lang.reflect.Constructor;
import java.lang.reflect.Field;
import java.lang.reflect.Method;
import java.lang.reflect.Modifier;
import java.util.Arrays;
import java.util.Set;
import java.util.TreeSet;

// The public face is that of the document, and nothing else can be seen from outside (LANGUAGE.md, rule 1).
public final class FaceTest {
    private static final String[] FACE = {
        "public static final int HeapView.NONE",
        "public static final int HeapView.DEAD",
        "public HeapView(int)",
        "public int HeapView.make(int)",
        "public boolean HeapView.destroy(int)",
        "public boolean HeapView.setRoot(int,boolean)",
        "public boolean HeapView.refer(int,int)",
        "public boolean HeapView.forget(int,int)",
        "public int HeapView.objects()",
        "public int HeapView.live()",
        "public int HeapView.keeper(int)",
        "public boolean HeapView.dominates(int,int)",
        "public int HeapView.kept(int)",
        "public int HeapView.retained(int)",
        "public int HeapView.depth(int)",
        "public int HeapView.common(int,int)",
        "public int HeapView.suspect(int)",
        "public int HeapView.sweep()"
    };

    public static void main(String[] args) {
        Set<String> want = new TreeSet<>(Arrays.asList(FACE));
        Set<String> got = new TreeSet<>();
        for (Field f : HeapView.class.getDeclaredFields()) {
            if (!Modifier.isPrivate(f.getModifiers())) {
                got.add(f.toString());
            }
        }
        for (Constructor<?> c : HeapView.class.getDeclaredConstructors()) {
            if (!Modifier.isPrivate(c.getModifiers())) {
                got.add(c.toString());
            }
        }
        for (Method m : HeapView.class.getDeclaredMethods()) {
            if (!Modifier.isPrivate(m.getModifiers())) {
                got.add(m.toString());
            }
        }
        boolean plain = HeapView.class.getModifiers() == (Modifier.PUBLIC | Modifier.FINAL)
            && HeapView.class.getDeclaredClasses().length == 0;
        if (!got.equals(want) || !plain) {
            System.out.println("the face is " + got + ", due is " + want);
            System.exit(1);
        }
        System.out.println("the face is as due");
    }
}

import java.lang.reflect.Constructor;
import java.lang.reflect.Field;
import java.lang.reflect.Method;
import java.lang.reflect.Modifier;
import java.util.Arrays;
import java.util.HashSet;
import java.util.Set;
import java.util.TreeSet;

/** The class has the document's face and nothing else that can be seen from outside. */
public final class FaceTest {
    private static final String INDEX = " throws java.lang.IndexOutOfBoundsException";
    private static final String ARGUMENT = "java.lang.IllegalArgumentException";
    private static final Set<String> FACE = Set.of(
        "public int TagMemory.read(int)" + INDEX,
        "public boolean TagMemory.tag(int)" + INDEX,
        "public int TagMemory.write(int,int)" + INDEX,
        "public int TagMemory.part(int,int,int,int)" + INDEX + "," + ARGUMENT,
        "public void TagMemory.put(int,int,int,boolean)" + INDEX,
        "public boolean TagMemory.copy(int,int)" + INDEX,
        "public int TagMemory.drop(int)" + INDEX,
        "public int TagMemory.flush()",
        "public int TagMemory.store(int)" + INDEX,
        "public int TagMemory.kept(int)" + INDEX,
        "public int TagMemory.count(int) throws " + ARGUMENT,
        "public int TagMemory.check()");

    private static final Due DUE = new Due();

    public static void main(String[] args) {
        DUE.is("public and final", TagMemory.class.getModifiers(), Modifier.PUBLIC | Modifier.FINAL);
        DUE.is("no class above", TagMemory.class.getSuperclass() == Object.class, true);
        constructors();
        methods();
        fields();
        DUE.end();
    }

    private static void constructors() {
        Constructor<?>[] all = TagMemory.class.getDeclaredConstructors();
        DUE.is("constructors", all.length, 1);
        DUE.is("constructor " + all[0], all[0].toString().equals("public TagMemory()"), true);
    }

    private static void methods() {
        Set<String> open = new TreeSet<>();
        Set<String> openNames = new HashSet<>();
        Set<String> privateNames = new HashSet<>();
        for (Method method : TagMemory.class.getDeclaredMethods()) {
            if (Modifier.isPrivate(method.getModifiers())) {
                privateNames.add(method.getName());
            } else {
                open.add(method.toString());
                openNames.add(method.getName());
            }
        }
        if (!open.equals(FACE)) {
            DUE.report("the face is " + open + ", due is " + new TreeSet<>(FACE));
        }
        privateNames.retainAll(openNames);
        DUE.is("private methods with a public one's name: " + privateNames, privateNames.size(), 0);
    }

    private static void fields() {
        for (Field field : TagMemory.class.getDeclaredFields()) {
            int modifiers = field.getModifiers();
            DUE.is("private: " + field, Modifier.isPrivate(modifiers), true);
            DUE.is("no static state: " + field, Modifier.isStatic(modifiers) && !Modifier.isFinal(modifiers), false);
        }
        DUE.is("classes inside: " + Arrays.toString(TagMemory.class.getDeclaredClasses()),
            TagMemory.class.getDeclaredClasses().length, 0);
    }
}

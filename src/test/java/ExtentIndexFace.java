import java.lang.reflect.Constructor;
import java.lang.reflect.Field;
import java.lang.reflect.Method;
import java.lang.reflect.Modifier;
import java.util.Set;
import java.util.TreeSet;

/** The members that others can see are those of the document's public face, and no more. */
public final class ExtentIndexFace {
    private static final Set<String> FACE = Set.of(
        "public static final int ExtentIndex.BAD_BLOCK",
        "public static final int ExtentIndex.BAD_SIZE",
        "public static final int ExtentIndex.NO_SPACE",
        "public static final int ExtentIndex.TAKEN",
        "public static final int ExtentIndex.FREE",
        "public static final int ExtentIndex.NONE",
        "public ExtentIndex()",
        "public int ExtentIndex.take(int)",
        "public int ExtentIndex.takeNear(int,int)",
        "public int ExtentIndex.takeAt(int,int)",
        "public int ExtentIndex.give(int,int)",
        "public int ExtentIndex.takePieces(int)",
        "public void ExtentIndex.clear()",
        "public boolean ExtentIndex.free(int)",
        "public int ExtentIndex.freeBlocks()",
        "public int ExtentIndex.extents()",
        "public int ExtentIndex.largest()",
        "public int ExtentIndex.next(int)",
        "public int ExtentIndex.sizeAt(int)",
        "public int ExtentIndex.bySize(int)",
        "public int ExtentIndex.atLeast(int)");

    public static void main(String[] args) {
        Set<String> seen = new TreeSet<>();
        int wrong = 0;
        for (Field field : ExtentIndex.class.getDeclaredFields()) {
            if (!Modifier.isPrivate(field.getModifiers())) {
                seen.add(field.toString());
            }
        }
        for (Constructor<?> constructor : ExtentIndex.class.getDeclaredConstructors()) {
            seen.add(constructor.toString());
        }
        Set<String> publicNames = new TreeSet<>();
        for (Method method : ExtentIndex.class.getDeclaredMethods()) {
            if (!Modifier.isPrivate(method.getModifiers())) {
                seen.add(method.toString());
                publicNames.add(method.getName());
            }
        }
        for (Method method : ExtentIndex.class.getDeclaredMethods()) {
            if (Modifier.isPrivate(method.getModifiers()) && publicNames.contains(method.getName())) {
                wrong += told("a private method has a public one's name: " + method);
            }
        }
        for (String member : FACE) {
            if (!seen.contains(member)) {
                wrong += told("missing: " + member);
            }
        }
        for (String member : seen) {
            if (!FACE.contains(member)) {
                wrong += told("not in the document: " + member);
            }
        }
        int modifiers = ExtentIndex.class.getModifiers();
        if (!Modifier.isPublic(modifiers) || !Modifier.isFinal(modifiers)) {
            wrong += told("the class is not public and final");
        }
        System.out.println(wrong == 0 ? "the face is the document's" : wrong + " faults");
        if (wrong != 0) {
            System.exit(1);
        }
    }

    private static int told(String fault) {
        System.out.println(fault);
        return 1;
    }
}

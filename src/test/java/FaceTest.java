import java.lang.reflect.Constructor;
import java.lang.reflect.Field;
import java.lang.reflect.Method;
import java.lang.reflect.Modifier;
import java.util.Set;
import java.util.TreeSet;

/** The public face is the document's, with nothing missing and nothing more. */
public final class FaceTest {
    private static final Set<String> FACE = Set.of(
            "public static final int BAD_THREAD = -1",
            "public static final int BAD_OP = -2",
            "public static final int FULL = -3",
            "public static final int BAD_VARIABLE = -4",
            "public static final int NONE = -2147483647",
            "public InterleaveExplorer()",
            "public int InterleaveExplorer.emit(int,int,int,int)",
            "public int InterleaveExplorer.begin(int,int)",
            "public int InterleaveExplorer.drop(int)",
            "public boolean InterleaveExplorer.canComplete()",
            "public boolean InterleaveExplorer.canStick()",
            "public boolean InterleaveExplorer.canFail(int)",
            "public boolean InterleaveExplorer.canEnd(int,int)",
            "public boolean InterleaveExplorer.canEndBoth(int,int,int,int)",
            "public int InterleaveExplorer.least(int)",
            "public int InterleaveExplorer.greatest(int)",
            "public int InterleaveExplorer.leastRegister(int,int)",
            "public boolean InterleaveExplorer.settled()");

    public static void main(String[] args) throws IllegalAccessException {
        Set<String> seen = seenFromOutside();
        for (String member : FACE) {
            Due.yes("the class has " + member, seen.contains(member));
        }
        for (String member : seen) {
            Due.yes("the document has " + member, FACE.contains(member));
        }
        Due.yes("the class is public and final",
                InterleaveExplorer.class.getModifiers() == (Modifier.PUBLIC | Modifier.FINAL));
        Due.end();
    }

    private static Set<String> seenFromOutside() throws IllegalAccessException {
        Set<String> seen = new TreeSet<>();
        for (Field field : InterleaveExplorer.class.getDeclaredFields()) {
            if (!Modifier.isPrivate(field.getModifiers())) {
                String value = Modifier.isStatic(field.getModifiers()) ? " = " + field.get(null) : "";
                seen.add(Modifier.toString(field.getModifiers()) + " " + field.getType() + " " + field.getName() + value);
            }
        }
        for (Constructor<?> constructor : InterleaveExplorer.class.getDeclaredConstructors()) {
            seen.add(constructor.toString());
        }
        for (Method method : InterleaveExplorer.class.getDeclaredMethods()) {
            if (!Modifier.isPrivate(method.getModifiers())) {
                seen.add(method.toString());
            }
        }
        return seen;
    }
}

import java.lang.reflect.Constructor;
import java.lang.reflect.Field;
import java.lang.reflect.Method;
import java.lang.reflect.Modifier;
import java.util.Set;
import java.util.TreeSet;

/** The class shows the document's public face and no more. */
public final class FaceTest {
    private static final Set<String> FACE = Set.of(
        "public static final int FlashMap.BAD",
        "public static final int FlashMap.NONE",
        "public FlashMap(int)",
        "public int FlashMap.write(int,int)",
        "public int FlashMap.torn(int,int)",
        "public int FlashMap.trim(int)",
        "public int FlashMap.powerCut()",
        "public boolean FlashMap.has(int)",
        "public int FlashMap.read(int)",
        "public int FlashMap.used()",
        "public int FlashMap.nextUsed(int)",
        "public long FlashMap.total()",
        "public int FlashMap.exchange(int,int)",
        "public int FlashMap.fill(int,int,int)");

    private static Set<String> visibleMembers() {
        Set<String> seen = new TreeSet<>();
        for (Field field : FlashMap.class.getDeclaredFields()) {
            if (!Modifier.isPrivate(field.getModifiers())) {
                seen.add(field.toString());
            }
        }
        for (Constructor<?> constructor : FlashMap.class.getDeclaredConstructors()) {
            if (!Modifier.isPrivate(constructor.getModifiers())) {
                seen.add(constructor.toString());
            }
        }
        for (Method method : FlashMap.class.getDeclaredMethods()) {
            if (!Modifier.isPrivate(method.getModifiers())) {
                seen.add(method.toString());
            }
        }
        return seen;
    }

    public static void main(String[] args) {
        int wrong = 0;
        if (!visibleMembers().equals(FACE)) {
            wrong++;
            System.out.println("the visible members are " + visibleMembers() + ", due are " + new TreeSet<>(FACE));
        }
        if (FlashMap.class.getModifiers() != (Modifier.PUBLIC | Modifier.FINAL)) {
            wrong++;
            System.out.println("the class isn't public and final alone");
        }
        System.out.println(wrong == 0 ? "the face is as due" : wrong + " faults");
        if (wrong != 0) {
            System.exit(1);
        }
    }
}

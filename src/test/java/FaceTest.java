import java.lang.reflect.Constructor;
import java.lang.reflect.Field;
import java.lang.reflect.Method;
import java.lang.reflect.Modifier;
import java.util.Set;
import java.util.TreeSet;

/** The class shows the face of the document, and nothing beside it. */
public final class FaceTest {
    private static final Set<String> FACE = Set.of(
            "public static final int BAD_VALUE = -1",
            "public static final int FULL = -2",
            "public static final int BAD_ROW = -3",
            "public static final int BAD_SETTING = -4",
            "public static final int NONE = -5",
            "public PrivacyLattice()",
            "public int PrivacyLattice.row(int,int)",
            "public int PrivacyLattice.drop()",
            "public int PrivacyLattice.demand(int,int,int)",
            "public int PrivacyLattice.leftOut(int)",
            "public boolean PrivacyLattice.good(int)",
            "public int PrivacyLattice.goodSettings()",
            "public int PrivacyLattice.finest()",
            "public int PrivacyLattice.finestAt(int)",
            "public int PrivacyLattice.best()",
            "public int PrivacyLattice.groups(int)",
            "public int PrivacyLattice.lookAlike(int,int)");

    public static void main(String[] args) throws IllegalAccessException {
        Class<?> type = PrivacyLattice.class;
        Check.due("the class", Modifier.toString(type.getModifiers()), "public final");
        Check.due("the class it extends", type.getSuperclass(), Object.class);
        Check.due("how many interfaces", type.getInterfaces().length, 0);
        Check.due("how many nested classes", type.getDeclaredClasses().length, 0);
        Check.due("the members not private", visibleMembers(type), new TreeSet<>(FACE));
        Check.finish();
    }

    private static Set<String> visibleMembers(Class<?> type) throws IllegalAccessException {
        Set<String> members = new TreeSet<>();
        for (Field field : type.getDeclaredFields()) {
            if (!Modifier.isPrivate(field.getModifiers())) {
                members.add(Modifier.toString(field.getModifiers()) + " " + field.getType() + " "
                        + field.getName() + " = " + field.getInt(null));
            }
        }
        for (Constructor<?> constructor : type.getDeclaredConstructors()) {
            if (!Modifier.isPrivate(constructor.getModifiers())) {
                members.add(constructor.toString());
            }
        }
        for (Method method : type.getDeclaredMethods()) {
            if (!Modifier.isPrivate(method.getModifiers())) {
                members.add(method.toString());
            }
        }
        return members;
    }
}

import java.lang.reflect.Constructor;
import java.lang.reflect.Field;
import java.lang.reflect.Method;
import java.lang.reflect.Modifier;
import java.util.Set;
import java.util.TreeSet;

/** The class has the document's face, and no other member that can be seen from outside. */
public final class FaceTest {
    private static final Due DUE = new Due();

    public static void main(String[] args) {
        Class<?> face = ConnectivitySuite.class;
        DUE.is("public final class", face.getModifiers() & (Modifier.PUBLIC | Modifier.FINAL),
            Modifier.PUBLIC | Modifier.FINAL);
        DUE.is("BAD", ConnectivitySuite.BAD, -1);
        DUE.is("FULL", ConnectivitySuite.FULL, -2);
        DUE.is("NONE", ConnectivitySuite.NONE, -3);
        DUE.is("nested classes", face.getDeclaredClasses().length, 0);
        same(seenMembers(face), Set.of(
            "public static final int ConnectivitySuite.BAD",
            "public static final int ConnectivitySuite.FULL",
            "public static final int ConnectivitySuite.NONE",
            "public ConnectivitySuite()",
            "public boolean ConnectivitySuite.begin(int)",
            "public int ConnectivitySuite.add(int,int)",
            "public boolean ConnectivitySuite.remove(int)",
            "public int ConnectivitySuite.lines()",
            "public int ConnectivitySuite.groups(int)",
            "public int ConnectivitySuite.bridges(int)",
            "public int ConnectivitySuite.hinges(int)",
            "public boolean ConnectivitySuite.agree(int,int)",
            "public int ConnectivitySuite.block(int)",
            "public int ConnectivitySuite.island(int)",
            "public int ConnectivitySuite.weakest()",
            "public int ConnectivitySuite.fragile()",
            "public int ConnectivitySuite.trees()",
            "public int ConnectivitySuite.shortest()",
            "public int ConnectivitySuite.around(int)",
            "public int ConnectivitySuite.sides()"));
        DUE.end();
    }

    private static Set<String> seenMembers(Class<?> face) {
        Set<String> seen = new TreeSet<>();
        for (Field field : face.getDeclaredFields()) {
            if (!Modifier.isPrivate(field.getModifiers())) {
                seen.add(field.toString());
            }
        }
        for (Constructor<?> constructor : face.getDeclaredConstructors()) {
            if (!Modifier.isPrivate(constructor.getModifiers())) {
                seen.add(constructor.toString());
            }
        }
        for (Method method : face.getDeclaredMethods()) {
            if (!Modifier.isPrivate(method.getModifiers())) {
                seen.add(method.toString());
            }
        }
        return seen;
    }

    private static void same(Set<String> seen, Set<String> want) {
        for (String member : want) {
            DUE.is("has " + member, seen.contains(member), true);
        }
        for (String member : seen) {
            DUE.is("document has " + member, want.contains(member), true);
        }
    }
}

import java.lang.reflect.Constructor;
import java.lang.reflect.Field;
import java.lang.reflect.Method;
import java.lang.reflect.Modifier;
import java.util.Set;
import java.util.TreeSet;

/** The class shows the face of the document and nothing else, and no private method bears a public name. */
public final class FaceTest {
    private static final Set<String> FACE = Set.of(
        "public static final int ArgumentDesk.BAD",
        "public static final int ArgumentDesk.NONE",
        "public ArgumentDesk()",
        "public boolean ArgumentDesk.put(int,boolean)",
        "public boolean ArgumentDesk.attack(int,int,boolean)",
        "public int ArgumentDesk.attackers(int)",
        "public int ArgumentDesk.count(int)",
        "public boolean ArgumentDesk.is(int,int)",
        "public int ArgumentDesk.set(int,int)",
        "public int ArgumentDesk.some(int)",
        "public int ArgumentDesk.every(int)",
        "public int ArgumentDesk.round(int)",
        "public int ArgumentDesk.weak(int)",
        "public boolean ArgumentDesk.agree(int,int)",
        "public int ArgumentDesk.effort(int)");

    public static void main(String[] args) {
        Due due = new Due();
        Class<?> desk = ArgumentDesk.class;
        Set<String> shown = new TreeSet<>();
        Set<String> publicNames = new TreeSet<>();
        for (Field field : desk.getDeclaredFields()) {
            if (!Modifier.isPrivate(field.getModifiers())) {
                shown.add(field.toString());
            }
        }
        for (Constructor<?> constructor : desk.getDeclaredConstructors()) {
            shown.add(constructor.toString());
        }
        for (Method method : desk.getDeclaredMethods()) {
            if (!Modifier.isPrivate(method.getModifiers())) {
                shown.add(method.toString());
                publicNames.add(method.getName());
            }
        }
        for (String member : shown) {
            due.same("face has " + member, FACE.contains(member), true);
        }
        for (String member : FACE) {
            due.same("class has " + member, shown.contains(member), true);
        }
        for (Method method : desk.getDeclaredMethods()) {
            boolean hidden = Modifier.isPrivate(method.getModifiers());
            due.same("private " + method.getName(), hidden && publicNames.contains(method.getName()), false);
        }
        due.same("class is public and final", desk.getModifiers(), Modifier.PUBLIC | Modifier.FINAL);
        due.same("nested classes", desk.getDeclaredClasses().length, 0);
        due.same("BAD", ArgumentDesk.BAD, -1);
        due.same("NONE", ArgumentDesk.NONE, -2);
        due.end();
    }
}

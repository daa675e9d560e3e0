import java.lang.reflect.Field;
import java.lang.reflect.Member;
import java.lang.reflect.Method;
import java.lang.reflect.Modifier;
import java.util.ArrayList;
import java.util.Arrays;
import java.util.List;
import java.util.TreeSet;

/** The public face: each member of the document's, and nothing else that can be seen from outside. */
public final class FaceTest {
    private static final List<String> METHODS = Arrays.asList(
            "int function(int,int,int)", "int emit(int,int,int)", "int erase(int)", "int check()", "int fault()",
            "int start(int,int,int)", "int resume(int)", "int reply(int)", "int grant(int,boolean)", "long result()",
            "long memory(int)", "int poke(int,int)", "int state(int)", "int count(int)");
    private static final List<String> CONSTANTS = Arrays.asList(
            "int DONE=0", "int REFUSED=-1", "int FULL=-2", "int STATE=-3", "int ENDED=1", "int NO_FUEL=2",
            "int WAITING=3", "int ARITHMETIC=10", "int MEMORY=11", "int DEPTH=12", "int STACK=13", "int DENIED=14",
            "long NONE=-1000000000000");

    public static void main(String[] args) throws IllegalAccessException {
        Kit kit = new Kit("FaceTest");
        Class<?> face = PluginRunner.class;
        kit.holds("public and final", Modifier.isPublic(face.getModifiers()) && Modifier.isFinal(face.getModifiers()));
        kit.due("constructors", face.getDeclaredConstructors().length, 1);
        kit.due("public constructors without parameters",
                Arrays.stream(face.getConstructors()).filter(c -> c.getParameterCount() == 0).count(), 1);
        kit.holds("methods", new TreeSet<>(METHODS).equals(new TreeSet<>(methods(face))));
        kit.due("methods", methods(face).size(), METHODS.size());
        kit.holds("constants", new TreeSet<>(CONSTANTS).equals(new TreeSet<>(constants(face))));
        for (Class<?> inside : face.getDeclaredClasses()) {
            int modifiers = inside.getModifiers();
            kit.holds(inside.getName() + " is static and not public",
                    Modifier.isStatic(modifiers) && !Modifier.isPublic(modifiers) && !Modifier.isProtected(modifiers));
        }
        kit.close();
    }

    private static boolean isSeen(Member member) {
        return !Modifier.isPrivate(member.getModifiers()) && !member.isSynthetic();
    }

    private static List<String> methods(Class<?> face) {
        List<String> found = new ArrayList<>();
        for (Method method : face.getDeclaredMethods()) {
            if (isSeen(method)) {
                StringBuilder types = new StringBuilder();
                for (Class<?> type : method.getParameterTypes()) {
                    types.append(types.length() == 0 ? "" : ",").append(type.getName());
                }
                found.add(method.getReturnType().getName() + " " + method.getName() + "(" + types + ")");
            }
        }
        return found;
    }

    private static List<String> constants(Class<?> face) throws IllegalAccessException {
        List<String> found = new ArrayList<>();
        for (Field field : face.getDeclaredFields()) {
            if (isSeen(field)) {
                boolean constant = Modifier.isStatic(field.getModifiers()) && Modifier.isFinal(field.getModifiers());
                found.add(field.getType().getName() + " " + field.getName() + "=" + (constant ? field.get(null) : "?"));
            }
        }
        return found;
    }
}

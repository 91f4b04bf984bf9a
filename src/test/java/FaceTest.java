import java.lang.reflect.Constructor;
import java.lang.reflect.Field;
import java.lang.reflect.Method;
import java.lang.reflect.Modifier;
import java.util.Set;
import java.util.TreeSet;

/** The class has the public face of the document, and beside it private members alone. */
public final class FaceTest {
    private static final String[] FACE = {
        "BAD_ARG", "NONE", "BlockPartitions(int)",
        "put(int,int)", "merge(int,int,int)", "move(int,int,int)", "turn(int)", "meet()", "join()",
        "uncross(int)", "complement(int)", "code(int)", "blocks(int)", "size(int,int)", "crosses(int)",
        "rank(int)", "partition(int)", "finer()", "interval()", "fullChains()", "sign()", "uncrossed(int)"};

    public static void main(String[] args) {
        Class<?> face = BlockPartitions.class;
        Set<String> seen = new TreeSet<>();
        Set<String> publicNames = new TreeSet<>();
        for (Field field : face.getDeclaredFields()) {
            lookAtField(field, seen);
        }
        for (Constructor<?> made : face.getDeclaredConstructors()) {
            seen.add(made.getName() + parameters(made.getParameterTypes()));
            Due.due("public " + made, Modifier.isPublic(made.getModifiers()) ? 1 : 0, 1);
        }
        for (Method method : face.getDeclaredMethods()) {
            if (!Modifier.isPrivate(method.getModifiers())) {
                seen.add(method.getName() + parameters(method.getParameterTypes()));
                publicNames.add(method.getName());
                boolean asListed = method.getModifiers() == Modifier.PUBLIC && method.getReturnType() == int.class;
                Due.due("public int " + method, asListed ? 1 : 0, 1);
            }
        }
        for (Method method : face.getDeclaredMethods()) {
            boolean twice = Modifier.isPrivate(method.getModifiers()) && publicNames.contains(method.getName());
            Due.due("private with a public name: " + method, twice ? 1 : 0, 0);
        }
        for (String member : FACE) {
            Due.due("has " + member, seen.remove(member) ? 1 : 0, 1);
        }
        Due.due("members that the document lacks: " + seen, seen.size(), 0);
        Due.due("final class", Modifier.isFinal(face.getModifiers()) ? 1 : 0, 1);
        Due.due("nested classes", face.getDeclaredClasses().length, 0);
        Due.end();
    }

    private static void lookAtField(Field field, Set<String> seen) {
        int modifiers = field.getModifiers();
        if (Modifier.isPrivate(modifiers)) {
            return;
        }
        seen.add(field.getName());
        int constant = Modifier.PUBLIC | Modifier.STATIC | Modifier.FINAL;
        Due.due("constant " + field, modifiers == constant && field.getType() == int.class ? 1 : 0, 1);
    }

    private static String parameters(Class<?>[] types) {
        StringBuilder text = new StringBuilder("(");
        for (Class<?> type : types) {
            text.append(text.length() > 1 ? "," : "").append(type.getName());
        }
        return text.append(")").toString();
    }
}

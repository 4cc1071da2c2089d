import java.lang.reflect.Constructor;
import java.lang.reflect.Field;
import java.lang.reflect.Method;
import java.lang.reflect.Modifier;
import java.util.Set;
import java.util.TreeSet;

/** The class has the face of the document, and nothing else that can be seen from outside. */
public final class FaceTest {
    private static final String[] FACE = {
        "final int UNKNOWN", "final int BAD_VALUE", "final int FULL", "final int NOT_POSSIBLE", "final int NONE",
        "LentParts()", "int lend(int,int,int,int)", "int half(int,int,int)", "int giveBack(int)", "int gather(int,int)",
        "int hold(int,int,boolean)", "int write(int,int,int)", "int read(int,int)", "int claim(int,int,boolean)",
        "int serve(int)", "int handOver(int,int)", "int type(char)", "int clearText()", "int perform()", "int stop(int)",
        "int undo()", "int keep()", "int restore()", "int cell(int,int)", "int part(int,int,int)", "int loan(int,int)",
        "int reason(int,int)", "int chain(int)", "int count(int)",
    };

    private FaceTest() {
    }

    public static void main(String[] args) {
        Set<String> due = new TreeSet<>(Set.of(FACE));
        Set<String> seen = new TreeSet<>();
        int modifiers = LentParts.class.getModifiers();
        Due.holds("the class is public and final", Modifier.isPublic(modifiers) && Modifier.isFinal(modifiers));
        for (Field field : LentParts.class.getDeclaredFields()) {
            boolean isConstant = Modifier.isPublic(field.getModifiers()) && Modifier.isStatic(field.getModifiers());
            if (!Modifier.isPrivate(field.getModifiers())) {
                String kind = isConstant && Modifier.isFinal(field.getModifiers()) ? "final " : "other ";
                seen.add(kind + field.getType().getSimpleName() + " " + field.getName());
            }
        }
        for (Constructor<?> constructor : LentParts.class.getDeclaredConstructors()) {
            if (!Modifier.isPrivate(constructor.getModifiers())) {
                seen.add("LentParts" + types(constructor.getParameterTypes()));
            }
        }
        for (Method method : LentParts.class.getDeclaredMethods()) {
            if (!Modifier.isPrivate(method.getModifiers())) {
                String kind = method.getModifiers() == Modifier.PUBLIC ? "" : "other ";
                seen.add(kind + method.getReturnType().getSimpleName() + " " + method.getName() + types(method.getParameterTypes()));
            }
        }
        Due.holds("the face is " + due + " but is " + seen, due.equals(seen));
        constants();
        for (Class<?> inside : LentParts.class.getDeclaredClasses()) {
            Due.holds(inside + " is static and not public", Modifier.isStatic(inside.getModifiers()) && !Modifier.isPublic(inside.getModifiers()));
        }
        Due.end();
    }

    private static void constants() {
        Due.is("UNKNOWN", LentParts.UNKNOWN, -1);
        Due.is("BAD_VALUE", LentParts.BAD_VALUE, -2);
        Due.is("FULL", LentParts.FULL, -3);
        Due.is("NOT_POSSIBLE", LentParts.NOT_POSSIBLE, -4);
        Due.is("NONE", LentParts.NONE, -5);
    }

    private static String types(Class<?>[] types) {
        StringBuilder names = new StringBuilder("(");
        for (Class<?> type : types) {
            names.append(names.length() > 1 ? "," : "").append(type.getSimpleName());
        }
        return names.append(")").toString();
    }
}

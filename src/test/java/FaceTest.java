import java.lang.reflect.Constructor;
import java.lang.reflect.Field;
import java.lang.reflect.Method;
import java.lang.reflect.Modifier;
import java.util.Arrays;
import java.util.Set;
import java.util.TreeSet;

/** The public face: all of the document's, and nothing else that can be seen from outside. */
public final class FaceTest {
    private static final String[] METHODS = {
        "int bank(int,int)", "int view(int,int,int,int,int)", "int clear()", "int reads(int,int)", "int looks(int,int)",
        "long number()", "int kind()", "int writes(int,int,int,int,long)", "int does(int,int,int,int,int)",
        "int copies(int,int,int)", "int undo()", "int plans(int,int,int,int,int)", "int drops()", "int modes(int,int)",
        "int runs()", "int line(int,int)", "int met(int)", "int forecast(int)", "int wave(int)", "int reorders()",
        "int joins(int,int)", "int would(int,int,int)", "int shares(int,int)", "int safe(int,int)", "int sees(int,int)",
        "int forget()", "int unseen(int)", "int fewest(int)", "int keep(int)", "int back(int)", "int count(int)"};
    private static final Object[][] CONSTANTS = {{"BAD", -1}, {"STATE", -2}, {"FULL", -3}, {"OUT", -4}, {"GONE", -5}, {"BARE", -6},
        {"UNLIKE", -7}, {"PAST", -8}, {"VOID", -9}, {"WIDE", -10}, {"SPENT", -11}, {"NONE", -20}};

    public static void main(String[] args) throws Exception {
        Class<?> face = WidenedBanks.class;
        Due.holds("public and final", Modifier.isPublic(face.getModifiers()) && Modifier.isFinal(face.getModifiers()));
        Due.holds("no package", face.getPackageName().isEmpty());
        methods(face);
        constants(face);
        Constructor<?>[] makers = face.getDeclaredConstructors();
        Due.holds("one public constructor without parameters",
                makers.length == 1 && Modifier.isPublic(makers[0].getModifiers()) && makers[0].getParameterCount() == 0);
        for (Class<?> inside : face.getDeclaredClasses()) {
            int m = inside.getModifiers();
            Due.holds(inside.getName() + " is static", Modifier.isStatic(m));
            Due.holds(inside.getName() + " is private or package-visible", !Modifier.isPublic(m) && !Modifier.isProtected(m));
        }
        Due.end();
    }

    private static void methods(Class<?> face) {
        Set<String> seen = new TreeSet<>();
        for (Method method : face.getDeclaredMethods()) {
            if (Modifier.isPrivate(method.getModifiers()) || method.isSynthetic()) {
                continue;
            }
            Due.holds(method + " is public", Modifier.isPublic(method.getModifiers()) && !Modifier.isStatic(method.getModifiers()));
            StringBuilder told = new StringBuilder(method.getReturnType() + " " + method.getName() + "(");
            for (int i = 0; i < method.getParameterCount(); i++) {
                told.append(i == 0 ? "" : ",").append(method.getParameterTypes()[i]);
            }
            seen.add(told + ")");
        }
        Due.holds("the document's methods and no others: " + seen, seen.equals(new TreeSet<>(Arrays.asList(METHODS))));
    }

    private static void constants(Class<?> face) throws IllegalAccessException {
        int open = 0;
        for (Field field : face.getDeclaredFields()) {
            open += Modifier.isPrivate(field.getModifiers()) || field.isSynthetic() ? 0 : 1;
        }
        Due.due("constants", open, CONSTANTS.length);
        for (Object[] constant : CONSTANTS) {
            try {
                Field field = face.getDeclaredField((String) constant[0]);
                int m = field.getModifiers();
                Due.holds(field + " is public static final",
                        Modifier.isPublic(m) && Modifier.isStatic(m) && Modifier.isFinal(m) && field.getType() == int.class);
                Due.due(field.getName(), field.getInt(null), (Integer) constant[1]);
            } catch (NoSuchFieldException missing) {
                Due.fail(constant[0] + " is missing");
            }
        }
    }
}

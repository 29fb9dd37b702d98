import java.lang.reflect.Constructor;
import java.lang.reflect.Field;
import java.lang.reflect.Member;
import java.lang.reflect.Method;
import java.lang.reflect.Modifier;
import java.util.Arrays;
import java.util.Set;
import java.util.TreeSet;

/** The public face is the document's, and nothing else of the class can be seen from outside it. */
public final class TwoTimesFace {
    private static final Set<String> DUE = new TreeSet<>(Arrays.asList(
        "BAD_THING = -1", "BAD_DAYS = -2", "FULL = -3", "BAD_ENTRY = -4", "NOTHING = -5",
        "new()",
        "int say(int, int, int)", "int unsay(int, int)", "int raise(int, int, int)", "int copy(int, int)",
        "void clear()",
        "int at(int, int, int)", "boolean known(int, int, int)", "int pieces(int, int)",
        "int pieceFrom(int, int, int)", "int pieceTo(int, int, int)", "int sumAt(int, int)",
        "int changed(int, int, int)", "int since(int, int)"));

    private static int wrong = 0;

    public static void main(String[] args) throws Exception {
        Set<String> seen = new TreeSet<>();
        for (Field field : TwoTimes.class.getDeclaredFields()) {
            if (isPublic(field)) {
                seen.add(field.getName() + " = " + field.getInt(null));
                due(field.getName() + " is static and final",
                    Modifier.isStatic(field.getModifiers()) && Modifier.isFinal(field.getModifiers()));
            }
        }
        for (Constructor<?> constructor : TwoTimes.class.getDeclaredConstructors()) {
            if (isPublic(constructor)) {
                seen.add("new" + list(constructor.getParameterTypes()));
            }
        }
        for (Method method : TwoTimes.class.getDeclaredMethods()) {
            if (isPublic(method)) {
                seen.add(method.getReturnType() + " " + method.getName() + list(method.getParameterTypes()));
            }
        }
        due("the face is " + seen + ", due is " + DUE, seen.equals(DUE));
        due("the class is public and final", TwoTimes.class.getModifiers() == (Modifier.PUBLIC | Modifier.FINAL));
        due("no class inside", TwoTimes.class.getDeclaredClasses().length == 0);
        System.out.println(seen.size() + " public members, " + wrong + " faults");
        if (wrong != 0) {
            System.exit(1);
        }
    }

    private static boolean isPublic(Member member) {
        boolean open = Modifier.isPublic(member.getModifiers());
        due(member.getName() + " is public or private", open || Modifier.isPrivate(member.getModifiers()));
        return open;
    }

    private static String list(Class<?>[] types) {
        String names = String.join(", ", Arrays.stream(types).map(Class::getName).toArray(String[]::new));
        return "(" + names + ")";
    }

    private static void due(String what, boolean holds) {
        if (!holds) {
            wrong++;
            System.out.println("not so: " + what);
        }
    }
}

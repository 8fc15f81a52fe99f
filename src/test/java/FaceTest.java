import java.lang.reflect.Constructor;
import java.lang.reflect.Field;
import java.lang.reflect.Method;
import java.lang.reflect.Modifier;
import java.util.ArrayList;
import java.util.Arrays;
import java.util.List;
import java.util.Set;
import java.util.TreeSet;

/** The public face is the document's, and the classes inside keep to LANGUAGE.md where this can be seen by looking. */
public final class FaceTest {
    private static final String[] FACE = {
        "int feed(int int int int int)", "boolean end(int)", "int town()", "int law()", "int fault()", "int cost(int int)",
        "int habit(int int)", "int person(int int)", "int saw(int int boolean)", "int tie(int boolean)", "int will(int int)",
        "int meet(int int)", "int rounds(int)", "int own(int int)", "boolean cold(int boolean)", "int ties(int int)",
        "int cut(int)", "int feast(int int)", "int expected(int int)", "int best(int)", "int safest(boolean)",
        "int odds(int int)", "int from(boolean)", "int worth()", "int rests(int int)", "int sake(int int boolean)",
        "int table(int int)", "int pairs(boolean)", "int begins(int)", "int after(int int)", "int custom(int int)",
        "int still()", "int told(int int)", "int colds(int int)", "int spared(int int)", "int changed(boolean)",
        "int trial(int int)", "int span(int boolean)", "int log(int int)", "int seed(int)", "boolean undo()", "void image()",
        "boolean back()", "int count(int)"
    };

    public static void main(String[] args) {
        Set<String> due = new TreeSet<>(Arrays.asList(FACE));
        Set<String> got = new TreeSet<>();
        Set<String> publicNames = new TreeSet<>();
        Set<String> hiddenNames = new TreeSet<>();
        for (Method m : CheekTown.class.getDeclaredMethods()) {
            if (Modifier.isPublic(m.getModifiers())) {
                got.add(told(m));
                publicNames.add(m.getName());
            } else {
                hiddenNames.add(m.getName());
                Checks.due("private " + m.getName(), Modifier.isPrivate(m.getModifiers()), true);
            }
        }
        if (!got.equals(due)) {
            Checks.fail("the face is " + got);
        }
        for (Field f : CheekTown.class.getDeclaredFields()) {
            boolean isNone = f.getName().equals("NONE");
            Checks.due("private " + f.getName(), Modifier.isPrivate(f.getModifiers()), !isNone);
        }
        for (Constructor<?> c : CheekTown.class.getDeclaredConstructors()) {
            Checks.due("public constructor", Modifier.isPublic(c.getModifiers()) && c.getParameterCount() == 0, true);
        }
        Checks.due("final", Modifier.isFinal(CheekTown.class.getModifiers()), true);
        Checks.due("NONE", CheekTown.NONE, -1);
        lookInside(hiddenNames);
        hiddenNames.retainAll(publicNames);
        if (!hiddenNames.isEmpty()) {
            Checks.fail("hidden methods bear public names: " + hiddenNames);
        }
        Checks.finish();
    }

    private static void lookInside(Set<String> hiddenNames) {
        Class<?>[] inside = CheekTown.class.getDeclaredClasses();
        Checks.due("at most twelve classes", inside.length + 1 <= 12, true);
        for (Class<?> c : inside) {
            Checks.due("static " + c.getName(), Modifier.isStatic(c.getModifiers()), true);
            Checks.due("not public " + c.getName(), Modifier.isPublic(c.getModifiers()) || Modifier.isProtected(c.getModifiers()), false);
            int fields = 0;
            for (Field f : c.getDeclaredFields()) {
                boolean isStatic = Modifier.isStatic(f.getModifiers());
                fields += isStatic ? 0 : 1;
                Checks.due("static is final: " + f, !isStatic || Modifier.isFinal(f.getModifiers()), true);
            }
            Checks.due("some twenty fields in " + c.getName(), fields <= 20, true);
            for (Method m : c.getDeclaredMethods()) {
                hiddenNames.add(m.getName());
                Checks.due("at most seven parameters: " + m, m.getParameterCount() <= 7, true);
            }
        }
    }

    private static String told(Method m) {
        List<String> parameters = new ArrayList<>();
        for (Class<?> p : m.getParameterTypes()) {
            parameters.add(p.getName());
        }
        return m.getReturnType().getName() + " " + m.getName() + "(" + String.join(" ", parameters) + ")";
    }
}

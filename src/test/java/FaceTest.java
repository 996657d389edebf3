import java.lang.reflect.Constructor;
import java.lang.reflect.Field;
import java.lang.reflect.Method;
import java.lang.reflect.Modifier;
import java.util.Set;
import java.util.TreeSet;

/** The public face of the document, and nothing beside it that others could see. */
public final class FaceTest {
    private static final Set<String> METHODS = Set.of(
        "int feed(int,int,int,int,int)", "int rules(int)", "int fault(int)",
        "boolean put(int,int,int,int,int,int)", "boolean miss(int,int,int,int)", "int number(int,int,int)",
        "int finding(int,int)", "int tell(int)", "int sign(int)", "int told(int)", "int held(int)", "void next()",
        "int changed(int,int)", "int count(int)");

    private static final String THROWN =
        "[finding java.lang.IndexOutOfBoundsException, finding java.util.NoSuchElementException]";

    public static void main(String[] args) {
        Check check = new Check();
        Class<?> face = WeatherTeller.class;
        check.isTrue("public and final",
            Modifier.isPublic(face.getModifiers()) && Modifier.isFinal(face.getModifiers()));
        Set<String> seen = new TreeSet<>();
        Set<String> publicNames = new TreeSet<>();
        Set<String> thrown = new TreeSet<>();
        for (Method method : face.getDeclaredMethods()) {
            if (!Modifier.isPrivate(method.getModifiers())) {
                seen.add(signature(method));
                publicNames.add(method.getName());
                for (Class<?> kind : method.getExceptionTypes()) {
                    thrown.add(method.getName() + " " + kind.getName());
                }
                check.isTrue(method + " is public", Modifier.isPublic(method.getModifiers()));
            }
        }
        check.same("methods", seen.toString(), new TreeSet<>(METHODS).toString());
        check.same("what is thrown", thrown.toString(), THROWN);
        for (Method method : face.getDeclaredMethods()) {
            check.isTrue(method + " has a name of its own",
                !Modifier.isPrivate(method.getModifiers()) || !publicNames.contains(method.getName()));
        }
        for (Field field : face.getDeclaredFields()) {
            check.isTrue(field + " is private",
                field.getName().equals("NONE") || Modifier.isPrivate(field.getModifiers()));
        }
        check.same("what NONE is", noneOf(face), "public static final int -1");
        check.same("constructors", face.getDeclaredConstructors().length, 1);
        for (Constructor<?> constructor : face.getDeclaredConstructors()) {
            check.isTrue("the constructor", Modifier.isPublic(constructor.getModifiers())
                && constructor.getParameterCount() == 0);
        }
        for (Class<?> inside : face.getDeclaredClasses()) {
            check.isTrue(inside + " is private and static",
                Modifier.isPrivate(inside.getModifiers()) && Modifier.isStatic(inside.getModifiers()));
        }
        check.end();
    }

    private static String noneOf(Class<?> face) {
        for (Field field : face.getDeclaredFields()) {
            if (field.getName().equals("NONE")) {
                return Modifier.toString(field.getModifiers()) + " " + field.getType() + " " + WeatherTeller.NONE;
            }
        }
        return "not there";
    }

    private static String signature(Method method) {
        StringBuilder text = new StringBuilder(method.getReturnType().getName());
        text.append(" ").append(method.getName()).append("(");
        for (int k = 0; k < method.getParameterCount(); k++) {
            text.append(k == 0 ? "" : ",").append(method.getParameterTypes()[k].getName());
        }
        return text.append(")").toString();
    }
}

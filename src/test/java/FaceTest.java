import java.lang.reflect.Constructor;
import java.lang.reflect.Field;
import java.lang.reflect.Method;
import java.lang.reflect.Modifier;
import java.util.ArrayList;
import java.util.List;
import java.util.TreeSet;

/** The public face is the document's: no less, and no more. */
public final class FaceTest {
    private static final String[] FACE = {
        "int size(int,int)", "int depth(int,int,int)", "int wear(int,int)", "int about(int,int)",
        "int thinning(int)", "int cut(int,int)", "int turn(int,int)", "int miles(int)",
        "int law(int,int)", "int broken()", "int kept(int)", "int steel()", "int even()",
        "int spare(int)", "int sell()", "int pairs(int)", "int read(int,int,int)", "int forget()",
        "int offset(int)", "int pass(int,int)", "int bar(int)", "int flat(int)", "int look(int)",
        "int due(int)", "int count(int)", "long trace()"};

    public static void main(String[] args) throws Exception {
        Check check = new Check("FaceTest");
        Class<?> face = WheelShop.class;
        int modifiers = face.getModifiers();
        check.holds("public and final", Modifier.isPublic(modifiers) && Modifier.isFinal(modifiers));
        check.holds("no package", face.getPackageName().isEmpty());
        constants(check, face);
        methods(check, face);
        Constructor<?>[] made = face.getDeclaredConstructors();
        check.due("constructors", made.length, 1);
        check.holds("WheelShop()", Modifier.isPublic(made[0].getModifiers()) && made[0].getParameterCount() == 0);
        check.end();
    }

    private static void constants(Check check, Class<?> face) throws Exception {
        String[] names = {"BAD", "STATE", "FULL", "NONE", "NO"};
        int[] values = {-1, -2, -3, -9, -1000000};
        for (int i = 0; i < names.length; i++) {
            Field constant = face.getField(names[i]);
            check.holds(names[i] + " is a constant int", constant.getType() == int.class
                    && Modifier.isStatic(constant.getModifiers()) && Modifier.isFinal(constant.getModifiers()));
            check.due(names[i], constant.getInt(null), values[i]);
        }
        for (Field field : face.getDeclaredFields()) {
            boolean told = List.of(names).contains(field.getName());
            check.holds("field " + field.getName(), told || Modifier.isPrivate(field.getModifiers()));
        }
    }

    private static void methods(Check check, Class<?> face) {
        TreeSet<String> found = new TreeSet<>();
        TreeSet<String> publicNames = new TreeSet<>();
        List<Method> others = new ArrayList<>();
        for (Method method : face.getDeclaredMethods()) {
            if (Modifier.isPublic(method.getModifiers()) && !Modifier.isStatic(method.getModifiers())) {
                found.add(told(method));
                publicNames.add(method.getName());
            } else {
                others.add(method);
            }
        }
        check.holds("the methods are " + found, found.equals(new TreeSet<>(List.of(FACE))));
        for (Method method : others) {
            check.holds(method + " is private, with a name of its own",
                    Modifier.isPrivate(method.getModifiers()) && !publicNames.contains(method.getName()));
        }
    }

    private static String told(Method method) {
        StringBuilder parameters = new StringBuilder();
        for (Class<?> type : method.getParameterTypes()) {
            parameters.append(parameters.length() == 0 ? "" : ",").append(type.getName());
        }
        return method.getReturnType().getName() + " " + method.getName() + "(" + parameters + ")";
    }
}

import java.lang.reflect.Constructor;
import java.lang.reflect.Field;
import java.lang.reflect.Method;
import java.lang.reflect.Modifier;
import java.util.Set;
import java.util.TreeSet;

/** The class shows the members of "The public face" and no others. */
public final class LazySeriesFace {
    private static final String[] KINDS = {
        "CONSTANT", "VARIABLE", "SUM", "PRODUCT", "SCALE", "DERIVATIVE", "INTEGRAL", "RECIPROCAL", "SHIFT", "COMPOSE",
    };
    private static final String[] METHODS = {
        "define/4", "kindOf/1", "coefficient/2", "known/1", "valued/1", "order/1",
        "agreeing/2", "evaluate/3", "sum/3", "needs/2",
    };

    private static final Check check = new Check();

    public static void main(String[] args) throws ReflectiveOperationException {
        int ofClass = LazySeries.class.getModifiers();
        check.holds("the class is public", Modifier.isPublic(ofClass));
        check.holds("the class is final", Modifier.isFinal(ofClass));
        check.due("nested classes", LazySeries.class.getDeclaredClasses().length, 0);
        constants();
        methods();
        constructors();
        check.finish();
    }

    private static void constants() throws ReflectiveOperationException {
        for (int kind = 0; kind < KINDS.length; kind++) {
            Field field = LazySeries.class.getField(KINDS[kind]);
            int modifiers = field.getModifiers();
            check.holds(KINDS[kind] + " is an int", field.getType() == int.class);
            check.holds(KINDS[kind] + " is static and final", Modifier.isStatic(modifiers) && Modifier.isFinal(modifiers));
            check.due(KINDS[kind], field.getInt(null), kind);
        }
        int shown = 0;
        for (Field field : LazySeries.class.getDeclaredFields()) {
            shown += Modifier.isPrivate(field.getModifiers()) ? 0 : 1;
        }
        check.due("fields that are not private", shown, KINDS.length);
    }

    private static void methods() {
        Set<String> shown = new TreeSet<>();
        Set<String> hidden = new TreeSet<>();
        for (Method method : LazySeries.class.getDeclaredMethods()) {
            if (Modifier.isPrivate(method.getModifiers())) {
                hidden.add(method.getName());
                continue;
            }
            shown.add(method.getName() + "/" + method.getParameterCount());
            check.holds(method + " is public", Modifier.isPublic(method.getModifiers()));
            check.holds(method + " is not static", !Modifier.isStatic(method.getModifiers()));
            check.holds(method + " answers an int", method.getReturnType() == int.class);
            for (Class<?> type : method.getParameterTypes()) {
                check.holds(method + " takes ints", type == int.class);
            }
        }
        check.holds("the methods are the document's, not " + shown, shown.equals(new TreeSet<>(Set.of(METHODS))));
        for (String method : METHODS) {
            String name = method.substring(0, method.indexOf('/'));
            check.holds("no private method is called " + name, !hidden.contains(name));
        }
    }

    private static void constructors() {
        Constructor<?>[] all = LazySeries.class.getDeclaredConstructors();
        check.due("constructors", all.length, 1);
        check.due("parameters of the constructor", all[0].getParameterCount(), 0);
        check.holds("the constructor is public", Modifier.isPublic(all[0].getModifiers()));
    }
}

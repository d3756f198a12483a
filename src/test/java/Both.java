import java.lang.reflect.InvocationTargetException;
import java.lang.reflect.Method;
import java.lang.reflect.Modifier;
import java.util.ArrayList;
import java.util.HashMap;
import java.util.List;
import java.util.Map;

/** A NamesInMelt and a Model that are called alike. */
final class Both {
    private static final Map<String, Method> FOUND = new HashMap<>();

    final NamesInMelt real = new NamesInMelt();
    final Model model = new Model();
    final List<String> log = new ArrayList<>();
    boolean wrong;

    void call(String name, Object... args) throws Exception {
        Object got = invoke(real, name, args);
        Object due = invoke(model, name, args);
        StringBuilder line = new StringBuilder(name).append('(');
        for (int i = 0; i < args.length; i++) {
            line.append(i == 0 ? "" : ", ").append(args[i]);
        }
        line.append(") = ").append(got);
        if (!got.equals(due)) {
            wrong = true;
            line.append(" but the model says ").append(due);
        }
        log.add(line.toString());
    }

    private static Object invoke(Object on, String name, Object[] args) throws Exception {
        Method method = FOUND.computeIfAbsent(on.getClass().getName() + "." + name, key -> find(on.getClass(), name));
        try {
            return method.invoke(on, args);
        } catch (InvocationTargetException e) {
            return e.getCause();
        }
    }

    private static Method find(Class<?> type, String name) {
        for (Method one : type.getDeclaredMethods()) {
            if (one.getName().equals(name) && Modifier.isPublic(one.getModifiers())) {
                one.setAccessible(true);
                return one;
            }
        }
        throw new IllegalStateException("no method " + name);
    }
}

import java.lang.reflect.InvocationTargetException;
import java.lang.reflect.Method;
import java.util.ArrayList;
import java.util.Comparator;
import java.util.List;

/** Runs the tests of a class, each of which stands for the words of the document that its Says tells. */
final class Sentences {
    private Sentences() {
    }

    static List<Method> of(Class<?> tests) {
        List<Method> methods = new ArrayList<>();
        for (Method method : tests.getDeclaredMethods()) {
            if (method.isAnnotationPresent(Says.class)) {
                methods.add(method);
            }
        }
        methods.sort(Comparator.comparing((Method m) -> m.getAnnotation(Says.class).promise()).thenComparing(Method::getName));
        return methods;
    }

    static void ask(Class<?> tests) throws Exception {
        Checks checks = new Checks(tests.getSimpleName());
        Document document = new Document();
        for (Method method : of(tests)) {
            Says says = method.getAnnotation(Says.class);
            checks.sentence(says.promise(), says.words());
            checks.due("the document says so", document.says(says.promise(), says.words()), true);
            int before = checks.asked();
            try {
                method.setAccessible(true);
                method.invoke(null, checks);
            } catch (InvocationTargetException e) {
                checks.due(method.getName() + " ended in " + e.getCause(), false, true);
            }
            checks.due("something was asked", checks.asked() > before, true);
        }
        checks.end();
    }
}

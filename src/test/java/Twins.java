import java.lang.reflect.InvocationTargetException;
import java.lang.reflect.Method;
import java.lang.reflect.Modifier;
import java.util.ArrayList;
import java.util.Arrays;
import java.util.Comparator;
import java.util.List;

/** The class and the plain model beside one another: each call is made on both, and both answer the same. */
final class Twins {
    final SharedCup cup = new SharedCup();
    final Model model = new Model();
    private final List<String> story = new ArrayList<>();
    private final Check check;

    Twins(Check check) {
        this.check = check;
    }

    static Method[] face() {
        return Arrays.stream(SharedCup.class.getDeclaredMethods())
            .filter(m -> Modifier.isPublic(m.getModifiers()))
            .sorted(Comparator.comparing(Method::getName)).toArray(Method[]::new);
    }

    void remark(String text) {
        story.add(text);
    }

    void tell() {
        story.forEach(System.out::println);
    }

    /** Makes the call on both (a boolean is told as 0 or 1). */
    boolean call(String name, Object... args) throws Exception {
        Object due = answer(Model.class, model, name, args);
        Object got = answer(SharedCup.class, cup, name, args);
        String call = name + Arrays.toString(args);
        story.add(call + " -> " + due);
        check.same(call, got, due);
        return got.equals(due);
    }

    /** The tape holds just these bytes then, with those behind them that fill a feed. */
    boolean put(String text, int behind) throws Exception {
        if (!call("end", 0)) {
            return false;
        }
        for (int from = 0; from < text.length(); from += 20) {
            Object[] words = new Object[5];
            for (int i = 0; i < 5; i++) {
                int word = 0;
                for (int at = from + 4 * i; at < from + 4 * i + 4; at++) {
                    word = word << 8 | (at < text.length() ? text.charAt(at) & 255 : behind);
                }
                words[i] = word;
            }
            if (!call("feed", words)) {
                return false;
            }
        }
        return call("end", text.length());
    }

    private static Object answer(Class<?> type, Object target, String name, Object[] args) throws Exception {
        for (Method method : type.getDeclaredMethods()) {
            if (!method.getName().equals(name) || !Modifier.isPublic(method.getModifiers())) {
                continue;
            }
            Object[] fit = args.clone();
            for (int i = 0; i < fit.length; i++) {
                if (method.getParameterTypes()[i] == boolean.class) {
                    fit[i] = !fit[i].equals(0);
                }
            }
            try {
                Object result = method.invoke(target, fit);
                return result == null ? "nothing" : result;
            } catch (InvocationTargetException thrown) {
                return thrown.getCause().getClass().getName();
            }
        }
        throw new IllegalStateException(name);
    }
}

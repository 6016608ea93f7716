import java.lang.reflect.Constructor;
import java.lang.reflect.Field;
import java.lang.reflect.Method;
import java.lang.reflect.Modifier;
import java.util.ArrayList;
import java.util.Collections;
import java.util.List;

/** The public face is the document's, member by member, and no private method bears a public one's name. */
public final class FaceTest {
    private static final String[] FACE = {
        "int feed(int,int,int,int,int)", "boolean end(int)", "int house()", "int law()", "int fault()",
        "int person(int,int)", "int liking(int,int)", "int bond(int,int,boolean)", "int told(int,int,int,int,int)",
        "int share(int,int)", "int wash(int,int)", "int go(int,int)", "boolean strew(int,boolean)",
        "void wed(int,int)", "int clear(int)", "int days(int)", "int circles()", "int ends()", "int free(int)",
        "int secrets()", "int would(int,int)", "int widest(int,int)", "int parts(int,int)", "int lovers(boolean)",
        "int steady(int)", "int fondest()", "int tell()", "int between(int,int)", "int hub()", "int drank(boolean)",
        "int look()", "int way(int,int)", "int unseen(int,int)", "int trap(int,boolean)", "boolean oath(int,int)",
        "int shortest(int)", "int alibi(int)", "int odds(int,int)", "int ahead(int,int,boolean)", "int calm(int)",
        "int trial(int,boolean)", "int span(int,boolean)", "int led(int,boolean)", "int log(int,int)",
        "int seed(int)", "boolean undo()", "void image()", "boolean back()", "int count(int)"};

    public static void main(String[] args) {
        Check check = new Check();
        List<String> due = new ArrayList<>(List.of(FACE));
        List<String> got = new ArrayList<>();
        List<String> names = new ArrayList<>();
        for (Method method : SharedCup.class.getDeclaredMethods()) {
            if (Modifier.isPublic(method.getModifiers())) {
                got.add(told(method));
                names.add(method.getName());
            } else {
                check.yes("private: " + method.getName(), Modifier.isPrivate(method.getModifiers()));
            }
        }
        Collections.sort(due);
        Collections.sort(got);
        check.same("the public methods", got, due);
        for (Class<?> inner : SharedCup.class.getDeclaredClasses()) {
            check.yes("static: " + inner.getName(), Modifier.isStatic(inner.getModifiers()));
            check.yes("not public: " + inner.getName(), !Modifier.isPublic(inner.getModifiers()));
            for (Method method : inner.getDeclaredMethods()) {
                check.yes("a name of its own: " + method, !names.contains(method.getName()));
            }
        }
        for (Method method : SharedCup.class.getDeclaredMethods()) {
            if (!Modifier.isPublic(method.getModifiers())) {
                check.yes("a name of its own: " + method, !names.contains(method.getName()));
            }
        }
        for (Field field : SharedCup.class.getDeclaredFields()) {
            check.yes("hidden: " + field.getName(),
                Modifier.isPrivate(field.getModifiers()) || field.getName().equals("NONE"));
        }
        for (Constructor<?> constructor : SharedCup.class.getDeclaredConstructors()) {
            check.is("parameters of the constructor", constructor.getParameterCount(), 0);
        }
        check.yes("final", Modifier.isFinal(SharedCup.class.getModifiers()));
        check.is("NONE", SharedCup.NONE, -1);
        check.close();
    }

    private static String told(Method method) {
        StringBuilder text = new StringBuilder();
        text.append(method.getReturnType().getName()).append(' ').append(method.getName()).append('(');
        for (Class<?> type : method.getParameterTypes()) {
            text.append(text.charAt(text.length() - 1) == '(' ? "" : ",").append(type.getName());
        }
        return text.append(')').toString();
    }
}

import java.lang.reflect.Method;
import java.util.Arrays;

/**
 * Every call with every number that stands at an edge of some sentence, and those just beyond it, in houses of nobody, of
 * one, of all who are bound, with a full log, and on the last DAY: each answer and exception is the plain model's.
 */
public final class GridTest {
    private static final Integer[] EDGES = {0, 1, -1, -2, 2, 3, 4, 5, 6, 7, 8, 9, 10, 12, 13, 59, 60, 61, 127, 128, 255, 256,
        399, 400, 401, 998, 999, 1000, 9998, 9999, 10000, 65535, 65536, Integer.MAX_VALUE, Integer.MIN_VALUE};
    private static final Integer[] FEW = {-1, 0, 1, 2, 3, 4, 7, 8, 9};
    private static final Check CHECK = new Check();

    public static void main(String[] args) throws Exception {
        grid("nobody");
        grid("one", "person at 5;likes 0 9;flour f");
        grid("two, of whom none is bound", "person at 0;person at 5;flour c");
        grid("eight of whom some are bound",
            "person at 0;person at 1;person at 2;person at 3;person at 4;person at 5;person at 0;person at 1",
            "likes 0 01234567;likes 1 90213004;likes 2 11011111;likes 3 98765432;likes 7 55555555;wed 0 7;wed 2 5;flour ace",
            "bond 0 1 9 till 5;bond 1 2 3 till 400;bond 2 5 7 till 9;bond 3 4 1 till 1;bond 6 7 9 till 999;bond 0 7 2 till 60");
        bound();
        lastDay();
        CHECK.close();
    }

    private static void grid(String name, String... texts) throws Exception {
        Twins twins = told(texts);
        twins.remark(name);
        everyCall(twins);
    }

    private static void bound() throws Exception {
        Twins twins = told(Check.people(8), "flour a;lasts 400;likes 7 11111110;wed 0 1");
        twins.put("bind 1 if liking > 0;last 9 if many > 7;suspect 2 if day < 3;suspect 1", 0);
        twins.call("law");
        twins.call("share", 255, 0);
        twins.call("days", 60);
        twins.call("image");
        everyCall(twins);
    }

    private static void lastDay() throws Exception {
        Twins twins = told(Check.people(3), "flour a;day 999;lasts 400");
        for (int k = 0; k < 149; k++) {
            twins.call("days", 60);
        }
        twins.call("days", 58);
        twins.call("share", 7, 0);
        everyCall(twins);
        twins.call("days", 60);
        everyCall(twins);
    }

    private static Twins told(String... texts) throws Exception {
        Twins twins = new Twins(CHECK);
        for (String text : texts) {
            twins.put(text, 0);
            twins.call("house");
        }
        return twins;
    }

    private static void everyCall(Twins twins) throws Exception {
        for (Method method : Twins.face()) {
            String name = method.getName();
            // what changes all is not undone, and is tested where it stands
            if (!name.equals("house") && !name.equals("law") && !name.equals("back") && !name.equals("image")) {
                everyArgument(twins, method, new Object[method.getParameterCount()], 0);
            }
        }
    }

    private static void everyArgument(Twins twins, Method method, Object[] args, int at) throws Exception {
        if (at == args.length) {
            once(twins, method.getName(), args);
            return;
        }
        Integer[] numbers = args.length > 2 && method.getParameterTypes()[2] == int.class ? FEW : EDGES;
        for (Integer number : method.getParameterTypes()[at] == boolean.class ? new Integer[] {0, 1} : numbers) {
            args[at] = number;
            everyArgument(twins, method, args, at + 1);
            if (method.getName().equals("feed")) {
                return;
            }
        }
    }

    /** An act is undone, so that the next one meets the same house. */
    private static void once(Twins twins, String name, Object[] args) throws Exception {
        int acts = twins.model.count(12);
        boolean same = twins.call(name, args.clone());
        if (twins.model.count(12) > acts) {
            same = twins.call("count", 3) && twins.call("count", 4) && twins.call("count", 7) && twins.call("count", 9)
                && twins.call("count", 10) && twins.call("undo") && same;
        }
        if (!same) {
            throw new IllegalStateException("they differ behind " + name + Arrays.toString(args));
        }
    }
}

import java.lang.reflect.Method;
import java.util.Random;

/** Many runs of drawn calls, each made on the class and on the plain model: every answer and exception is the same. */
public final class ModelTest {
    private static final int RUNS = 700;
    private static final String[] PARTS = {"one", "other", "sip", "many", "liking", "day", "0", "1", "3", "7", "12", "999"};

    private final Random random;
    private final Twins twins;

    private ModelTest(long seed, Check check) {
        this.random = new Random(seed);
        this.twins = new Twins(check);
    }

    public static void main(String[] args) throws Exception {
        Check check = new Check();
        Method[] face = Twins.face();
        for (int seed = 0; seed < RUNS; seed++) {
            if (!new ModelTest(seed, check).run(face)) {
                break;
            }
        }
        check.close();
    }

    private boolean run(Method[] face) throws Exception {
        for (int text = random.nextInt(3); text >= 0; text--) {
            if (!tell(true)) {
                return false;
            }
        }
        for (int call = 0; call < 220; call++) {
            int dice = random.nextInt(100);
            boolean right = dice < 4 ? tell(random.nextInt(4) > 0)
                : dice < 8 ? tellDrinkers()
                : dice < 9 ? twins.call("image")
                : dice < 10 ? twins.call("back")
                : dice < 13 ? twins.call("undo")
                : dice < 20 ? twins.call("days", dice < 15 ? 60 : 1 + random.nextInt(6))
                : dice < 26 ? twins.call("share", random.nextInt(256), random.nextInt(4))
                : drawn(face[random.nextInt(face.length)]);
            if (!right) {
                twins.tell();
                return false;
            }
        }
        return true;
    }

    /** A text for the house or the law, and both look at the fault then. */
    private boolean tell(boolean mostlyRight) throws Exception {
        boolean law = random.nextInt(3) == 0;
        String text = law ? lawText() : houseText();
        if (!mostlyRight) {
            text = spoilt(text);
        }
        if (text.length() > 400) {
            text = text.substring(0, 400);
        }
        twins.remark("-- \"" + text + "\"");
        return twins.put(text, random.nextInt(256)) && twins.call(law ? "law" : "house") && twins.call("fault") && twins.call("count", law ? 2 : 0);
    }

    private boolean tellDrinkers() throws Exception {
        int people = Math.max(1, twins.model.count(0));
        StringBuilder text = new StringBuilder();
        for (int row = random.nextInt(random.nextInt(8) == 0 ? 14 : 4); row > 0; row--) {
            int from = random.nextInt(people);
            int to = from + random.nextInt(people - from);
            text.append((char) from).append((char) (random.nextInt(15) == 0 ? random.nextInt(256) : to));
            text.append((char) random.nextInt(to - from + 2));
        }
        if (random.nextInt(15) == 0) {
            text.append((char) 0);
        }
        return twins.put(text.toString(), random.nextInt(256)) && (random.nextBoolean() ? twins.call("look") : twins.call("drank", random.nextInt(2)));
    }

    private boolean drawn(Method method) throws Exception {
        Class<?>[] types = method.getParameterTypes();
        Object[] args = new Object[types.length];
        for (int i = 0; i < args.length; i++) {
            args[i] = types[i] == boolean.class ? (Object) random.nextInt(2) : (Object) number(method.getName(), i);
        }
        return twins.call(method.getName(), args);
    }

    private int number(String name, int place) {
        if (random.nextInt(25) == 0) {
            return new int[] {-1, -2, Integer.MIN_VALUE, Integer.MAX_VALUE, 255, 61, 400, 401, 9999, 10000, 60, 0}[random.nextInt(12)];
        }
        boolean people = name.equals("would") && place == 0 || name.equals("oath") && place == 1;
        boolean many = name.equals("ahead") && place == 1 || name.equals("calm") || name.equals("trial") || name.equals("span");
        if (name.equals("told") && place > 1) {
            return place == 2 ? random.nextInt(4) : place == 3 ? 2 + random.nextInt(7) : random.nextInt(3);
        }
        int bound = people ? 256 : many ? 40 : name.equals("free") ? 300 : name.equals("count") ? 14
            : name.equals("feed") || name.equals("seed") ? Integer.MAX_VALUE : name.equals("log") && place == 0 ? 62
            : Math.max(5, twins.model.count(0)) + (random.nextInt(6) == 0 ? 2 : 0);
        return random.nextInt(bound);
    }

    // ---- texts

    private String gap() {
        return random.nextInt(8) == 0 ? "  " : random.nextInt(4) == 0 ? "" : " ";
    }

    private String houseText() {
        StringBuilder text = new StringBuilder(gap());
        int people = twins.model.count(0);
        int lines = random.nextInt(12) == 0 ? 13 + random.nextInt(3) : random.nextInt(12);
        for (int line = 0; line < lines; line++) {
            int kind = random.nextInt(people < 3 ? 3 : 13);
            if (kind < 3 && (people < 8 || random.nextInt(12) == 0)) {
                text.append("person ").append("at").append(gap()).append(random.nextInt(6));
                people++;
            } else {
                text.append(houseLine(kind, people));
            }
            text.append(gap()).append(line + 1 < lines || random.nextInt(30) == 0 ? ";" : "").append(gap());
        }
        return text.toString();
    }

    private String houseLine(int kind, int people) {
        int one = random.nextInt(Math.max(1, people));
        int other = random.nextInt(Math.max(1, people));
        if (one == other && people > 1 && random.nextInt(10) > 0) {
            other = (one + 1) % people;
        }
        switch (kind) {
            case 3:
            case 4:
            case 5:
            case 6:
                StringBuilder figures = new StringBuilder();
                for (int i = 0; i < people; i++) {
                    figures.append(random.nextInt(random.nextBoolean() ? 10 : 4));
                }
                return "likes" + gap() + one + " " + figures;
            case 7:
                return "wed" + gap() + one + " " + other;
            case 8:
            case 12:
                String rooms = "";
                int few = 1 + random.nextInt(3);
                for (char room = 'a'; room <= 'f'; room++) {
                    rooms = random.nextInt(few) == 0 ? room + rooms : rooms;
                }
                return "flour " + (rooms.isEmpty() ? "a" : rooms);
            case 9:
                return random.nextBoolean() ? "binds" + gap() + (1 + random.nextInt(9)) : "lasts" + gap() + (1 + random.nextInt(60));
            case 10:
                return "day" + gap() + random.nextInt(random.nextInt(4) == 0 ? 1000 : 30);
            default:
                return "bond " + one + " " + other + " " + (1 + random.nextInt(9)) + gap() + "till" + gap() + (1 + random.nextInt(50));
        }
    }

    private String lawText() {
        StringBuilder text = new StringBuilder(gap());
        int lines = random.nextInt(10) == 0 ? 10 + random.nextInt(4) : random.nextInt(7);
        for (int line = 0; line < lines; line++) {
            text.append(new String[] {"bind", "last", "suspect"}[random.nextInt(3)]).append(gap());
            text.append(random.nextInt(random.nextBoolean() ? 4 : 100)).append(gap());
            if (random.nextInt(3) > 0) {
                text.append("if").append(condition(0));
            }
            text.append(line + 1 < lines || random.nextInt(30) == 0 ? ";" : "").append(gap());
        }
        return text.toString();
    }

    private String condition(int deep) {
        String text = atom(deep);
        for (int more = random.nextInt(3); more > 0 && text.length() < 60; more--) {
            text += (random.nextBoolean() ? "and" : "or") + atom(deep);
        }
        return text;
    }

    private String atom(int deep) {
        int kind = random.nextInt(deep < 7 && random.nextInt(3) > 0 ? 6 : 4);
        switch (kind) {
            case 0:
                return " wed ";
            case 1:
                return " bound ";
            case 4:
                return " not" + atom(deep + 1);
            case 5:
                return gap() + "(" + gap() + condition(deep + 1) + ")" + gap();
            default:
                return " " + sum() + gap() + (random.nextBoolean() ? "<" : ">") + gap() + sum() + " ";
        }
    }

    private String sum() {
        String text = PARTS[random.nextInt(PARTS.length)];
        return random.nextInt(3) > 0 ? text : text + gap() + "+" + gap() + sum();
    }

    /** Bytes put in, taken out or changed. */
    private String spoilt(String text) {
        StringBuilder spoilt = new StringBuilder(text);
        String bytes = " ;()<>+0123456789abcdefnot\u0000\u00ffZ`{/:";
        for (int times = 1 + random.nextInt(2); times > 0; times--) {
            int at = random.nextInt(spoilt.length() + 1);
            char sign = bytes.charAt(random.nextInt(bytes.length()));
            if (random.nextBoolean() || at == spoilt.length()) {
                spoilt.insert(at, sign);
            } else if (random.nextBoolean()) {
                spoilt.deleteCharAt(at);
            } else {
                spoilt.setCharAt(at, sign);
            }
        }
        return random.nextInt(5) == 0 ? spoilt.substring(0, random.nextInt(spoilt.length() + 1)) : spoilt.toString();
    }
}

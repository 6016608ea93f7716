/** What the project's tests share: answers against those that are due, and texts put on a tape. */
final class Check {
    /** A call whose exception is looked at. */
    interface Call {
        void run();
    }

    private int wrong;
    private int asked;

    void is(String call, long got, long due) {
        asked++;
        if (got != due) {
            fail(call + " answered " + got + ", due is " + due);
        }
    }

    void yes(String call, boolean got) {
        same(call, got, true);
    }

    void no(String call, boolean got) {
        same(call, got, false);
    }

    void same(String call, Object got, Object due) {
        asked++;
        if (!got.equals(due)) {
            fail(call + " answered " + got + ", due is " + due);
        }
    }

    /** The call throws just that class, none below it. */
    void throwsA(Class<? extends RuntimeException> due, String name, Call call) {
        asked++;
        try {
            call.run();
            fail(name + " threw nothing, due is " + due.getSimpleName());
        } catch (RuntimeException got) {
            if (got.getClass() != due) {
                fail(name + " threw " + got + ", due is " + due.getSimpleName());
            }
        }
    }

    void index(String name, Call call) {
        throwsA(IndexOutOfBoundsException.class, name, call);
    }

    void argument(String name, Call call) {
        throwsA(IllegalArgumentException.class, name, call);
    }

    void element(String name, Call call) {
        throwsA(java.util.NoSuchElementException.class, name, call);
    }

    private void fail(String text) {
        wrong++;
        if (wrong <= 40) {
            System.out.println(text);
        }
    }

    void close() {
        System.out.println(asked + " answers, " + wrong + " not as due");
        if (wrong > 0) {
            System.exit(1);
        }
    }

    /** The tape holds just these bytes then (each character is one). */
    static void put(SharedCup cup, String text) {
        cup.end(0);
        int[] word = new int[5];
        for (int from = 0; from < text.length(); from += 20) {
            for (int i = 0; i < 5; i++) {
                word[i] = 0;
                for (int k = 0; k < 4; k++) {
                    int at = from + 4 * i + k;
                    word[i] = word[i] << 8 | (at < text.length() ? text.charAt(at) & 255 : 0);
                }
            }
            cup.feed(word[0], word[1], word[2], word[3], word[4]);
        }
        cup.end(text.length());
    }

    static int house(SharedCup cup, String text) {
        put(cup, text);
        return cup.house();
    }

    static int law(SharedCup cup, String text) {
        put(cup, text);
        return cup.law();
    }

    static SharedCup of(String... texts) {
        SharedCup cup = new SharedCup();
        for (String text : texts) {
            house(cup, text);
        }
        return cup;
    }

    static String bytes(int... numbers) {
        StringBuilder text = new StringBuilder();
        for (int number : numbers) {
            text.append((char) number);
        }
        return text.toString();
    }
}

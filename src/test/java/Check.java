/** What the project's tests share: answers against those that are due, and texts put on a tape. */
final class Check {
    /** A call whose exception is looked at. */
    interface Call {
        void run();
    }

    private int wrong;
    private int asked;

    void is(String call, long got, long due) {
        asked++;
        if (got != due) {
            fail(call + " answered " + got + ", due is " + due);
        }
    }

    void yes(String call, boolean got) {
        same(call, got, true);
    }

    void no(String call, boolean got) {
        same(call, got, false);
    }

    void same(String call, Object got, Object due) {
        asked++;
        if (!got.equals(due)) {
            fail(call + " answered " + got + ", due is " + due);
        }
    }

    /** The call throws just that class, none below it. */
    void throwsA(Class<? extends RuntimeException> due, String name, Call call) {
        asked++;
        try {
            call.run();
            fail(name + " threw nothing, due is " + due.getSimpleName());
        } catch (RuntimeException got) {
            if (got.getClass() != due) {
                fail(name + " threw " + got + ", due is " + due.getSimpleName());
            }
        }
    }

    void index(String name, Call call) {
        throwsA(IndexOutOfBoundsException.class, name, call);
    }

    void argument(String name, Call call) {
        throwsA(IllegalArgumentException.class, name, call);
    }

    void element(String name, Call call) {
        throwsA(java.util.NoSuchElementException.class, name, call);
    }

    void unsupported(String name, Call call) {
        throwsA(UnsupportedOperationException.class, name, call);
    }

    void state(String name, Call call) {
        throwsA(IllegalStateException.class, name, call);
    }

    private void fail(String text) {
        wrong++;
        if (wrong <= 40) {
            System.out.println(text);
        }
    }

    void close() {
        System.out.println(asked + " answers, " + wrong + " not as due");
        if (wrong > 0) {
            System.exit(1);
        }
    }

    /** The tape holds just these bytes then (each character is one). */
    static void put(SharedCup cup, String text) {
        cup.end(0);
        int[] word = new int[5];
        for (int from = 0; from < text.length(); from += 20) {
            for (int i = 0; i < 5; i++) {
                word[i] = 0;
                for (int k = 0; k < 4; k++) {
                    int at = from + 4 * i + k;
                    word[i] = word[i] << 8 | (at < text.length() ? text.charAt(at) & 255 : 0);
                }
            }
            cup.feed(word[0], word[1], word[2], word[3], word[4]);
        }
        cup.end(text.length());
    }

    static int house(SharedCup cup, String text) {
        put(cup, text);
        return cup.house();
    }

    static int law(SharedCup cup, String text) {
        put(cup, text);
        return cup.law();
    }

    static SharedCup of(String... texts) {
        SharedCup cup = new SharedCup();
        for (String text : texts) {
            house(cup, text);
        }
        return cup;
    }

    static String times(String line, int many, String between) {
        StringBuilder text = new StringBuilder(line);
        for (int k = 1; k < many; k++) {
            text.append(between).append(line);
        }
        return text.toString();
    }

    /** A text of so many PEOPLE, all in ROOM 0. */
    static String people(int many) {
        return times("person at 0", many, ";");
    }

    /** The text with blanks behind it, so that it has so many bytes. */
    static String filled(String text, int length) {
        return text + " ".repeat(length - text.length());
    }

    /** A house on the last DAY, which no text can tell. */
    static SharedCup onLastDay(String text) {
        SharedCup cup = of(text, "day 999");
        for (int k = 0; k < 150; k++) {
            cup.days(60);
        }
        return cup;
    }

    /** All that can be asked of a house, but for the tape, fault() and what may be undone. */
    static String all(SharedCup x) {
        StringBuilder text = new StringBuilder();
        for (int what = 0; what < 12; what++) {
            text.append(x.count(what)).append(' ');
        }
        for (int one = 0; one < x.count(0); one++) {
            for (int what = 0; what < 8; what++) {
                text.append(x.person(one, what)).append(' ');
            }
            for (int other = 0; other < x.count(0); other++) {
                if (one != other) {
                    text.append(x.liking(one, other)).append(' ').append(x.bond(one, other, false)).append(' ');
                    text.append(x.bond(one, other, true)).append(' ').append(x.told(one, other, 1, 3, 0)).append(' ');
                    text.append(x.told(one, other, 1, 3, 1)).append(' ').append(x.told(one, other, 1, 3, 2)).append(' ');
                }
            }
        }
        for (int ago = 0; ago <= x.count(11); ago++) {
            for (int what = 0; what < 4; what++) {
                text.append(x.log(ago, what)).append(' ');
            }
        }
        int seed = x.seed(0);
        x.seed(seed);
        return text.append(seed).toString();
    }

    static String bytes(int... numbers) {
        StringBuilder text = new StringBuilder();
        for (int number : numbers) {
            text.append((char) number);
        }
        return text.toString();
    }
}

import java.util.function.Consumer;

/**
 * "Of several exceptions the one told first is thrown; a call that throws changes nothing but the TAPE, where it is used
 * up." For each call that may throw, each reason for it, and the reasons together.
 */
public final class RefusedTest {
    private static final Check CHECK = new Check();
    private static final Class<IndexOutOfBoundsException> INDEX = IndexOutOfBoundsException.class;
    private static final Class<IllegalArgumentException> ARGUMENT = IllegalArgumentException.class;
    private static final Class<IllegalStateException> STATE = IllegalStateException.class;
    private static final Class<java.util.NoSuchElementException> ELEMENT = java.util.NoSuchElementException.class;
    private static final Class<UnsupportedOperationException> UNSUPPORTED = UnsupportedOperationException.class;
    private static final int WRONG_BYTE = 6;
    private static final String ON_TAPE = "flour b;lasts 9;day 1";

    public static void main(String[] args) {
        asked();
        acts();
        bonds();
        searches();
        daysToCome();
        tapes();
        texts();
        CHECK.close();
    }

    /** PEOPLE 0 to 3, 1 and 2 WED, an image, two acts, a wrong byte, and a text on the tape that is right. */
    private static SharedCup standing(int texts) {
        SharedCup x = Check.of("person at 0;person at 0;person at 2;person at 5;wed 1 2;flour a;bond 0 1 7 till 90;likes 0 0123");
        for (int text = 1; text < texts; text++) {
            Check.house(x, "");
        }
        Check.law(x, "bind 1 if bound;suspect 3");
        x.image();
        x.days(4);
        x.share(7, 0);
        try {
            Check.house(x, "day 1;x");
        } catch (IllegalArgumentException wrong) {
            CHECK.is("the wrong byte", x.fault(), WRONG_BYTE);
        }
        Check.put(x, ON_TAPE);
        return x;
    }

    private static void refused(Class<? extends RuntimeException> due, String name, Consumer<SharedCup> call) {
        SharedCup x = standing(1);
        String before = Check.all(x);
        CHECK.throwsA(due, name, () -> call.accept(x));
        asBefore(x, name, before);
        CHECK.is("fault() behind " + name, x.fault(), WRONG_BYTE);
        CHECK.no("the tape is no longer behind " + name, x.end(ON_TAPE.length() + 1));
        CHECK.yes("the tape is no shorter behind " + name, x.end(ON_TAPE.length()));
        CHECK.is("its text behind " + name, x.house(), 2);
        CHECK.is("told by it behind " + name, x.count(6), 9);
        goesBack(x, name);
    }

    /** A call that uses the tape up, with this on it; the wrong byte is that of the text, or the one before. */
    private static void refused(Class<? extends RuntimeException> due, String name, int fault, SharedCup x,
            Consumer<SharedCup> call) {
        String before = Check.all(x);
        CHECK.throwsA(due, name, () -> call.accept(x));
        asBefore(x, name, before);
        CHECK.is("fault() behind " + name, x.fault(), fault);
        CHECK.no("the tape is used up behind " + name, x.end(1));
        CHECK.is("and takes bytes again behind " + name, x.feed(0, 0, 0, 0, 0), 20);
        goesBack(x, name);
    }

    private static void asBefore(SharedCup x, String name, String before) {
        CHECK.same("all behind " + name, Check.all(x), before);
        CHECK.is("acts behind " + name, x.count(12), 2);
    }

    /** The image is the one that was kept, and the acts were those that were done. */
    private static void goesBack(SharedCup x, String name) {
        CHECK.yes("back() behind " + name, x.back());
        CHECK.is("DAY of the image behind " + name, x.count(3), 0);
        CHECK.is("FLOUR of the image behind " + name, x.count(4), 1);
        CHECK.is("BONDS of the image behind " + name, x.count(9), 1);
    }

    private static void asked() {
        refused(INDEX, "person", x -> x.person(4, 0));
        refused(INDEX, "person below 0", x -> x.person(-1, 0));
        refused(INDEX, "person, what", x -> x.person(4, 8));
        refused(ELEMENT, "person what", x -> x.person(0, 8));
        refused(INDEX, "liking", x -> x.liking(0, 4));
        refused(INDEX, "liking of none by none", x -> x.liking(4, 4));
        refused(ARGUMENT, "liking of oneself", x -> x.liking(3, 3));
        refused(INDEX, "bond", x -> x.bond(4, 0, false));
        refused(INDEX, "bond of none with none", x -> x.bond(-1, -1, true));
        refused(ARGUMENT, "bond with oneself", x -> x.bond(0, 0, true));
        refused(INDEX, "told", x -> x.told(0, 4, 0, 2, 0));
        refused(INDEX, "told, all of it", x -> x.told(4, 4, 4, 9, 3));
        refused(ARGUMENT, "told of one, all of it", x -> x.told(1, 1, 4, 9, 3));
        refused(ARGUMENT, "told with a SIP, what", x -> x.told(0, 1, 4, 2, 3));
        refused(ARGUMENT, "told of many, what", x -> x.told(0, 1, 0, 9, 3));
        refused(ELEMENT, "told what", x -> x.told(0, 1, 0, 2, 3));
        refused(ELEMENT, "log what", x -> x.log(0, 4));
        refused(ELEMENT, "log what, without a row", x -> x.log(99, -1));
        refused(INDEX, "led", x -> x.led(4, false));
    }

    private static void acts() {
        refused(ARGUMENT, "share of one", x -> x.share(1, 0));
        refused(ARGUMENT, "share of none", x -> x.share(~15, 0));
        refused(ARGUMENT, "share with a SIP", x -> x.share(15, 4));
        refused(ARGUMENT, "share, both", x -> x.share(0, -1));
        refused(INDEX, "wash", x -> x.wash(0, 4));
        refused(INDEX, "wash of none with none", x -> x.wash(4, 4));
        refused(ARGUMENT, "wash with oneself", x -> x.wash(1, 1));
        refused(INDEX, "go", x -> x.go(4, 0));
        refused(INDEX, "go to a ROOM", x -> x.go(0, 6));
        refused(INDEX, "go, both", x -> x.go(-1, -1));
        refused(INDEX, "strew", x -> x.strew(6, true));
        refused(INDEX, "sweep", x -> x.strew(-1, false));
        refused(INDEX, "wed", x -> x.wed(0, 4));
        refused(INDEX, "wed of one who is WED with none", x -> x.wed(1, 4));
        refused(INDEX, "wed of none with none", x -> x.wed(4, 4));
        refused(ARGUMENT, "wed with oneself", x -> x.wed(0, 0));
        refused(ARGUMENT, "wed with oneself, who is WED", x -> x.wed(1, 1));
        refused(STATE, "wed of the first", x -> x.wed(1, 0));
        refused(STATE, "wed of the other", x -> x.wed(0, 2));
        refused(STATE, "wed of both", x -> x.wed(2, 1));
        refused(INDEX, "clear", x -> x.clear(4));
        refused(ARGUMENT, "days of none", x -> x.days(0));
        refused(ARGUMENT, "days of too many", x -> x.days(61));
    }

    private static void bonds() {
        refused(ARGUMENT, "free below", x -> x.free(-1));
        refused(ARGUMENT, "free above", x -> x.free(10000));
        refused(ARGUMENT, "would of one", x -> x.would(8, 0));
        refused(ARGUMENT, "would with a SIP", x -> x.would(3, 4));
        refused(ARGUMENT, "widest with a SIP", x -> x.widest(4, 2));
        refused(ARGUMENT, "widest of one", x -> x.widest(0, 1));
        refused(ARGUMENT, "widest of nine", x -> x.widest(0, 9));
        refused(INDEX, "parts", x -> x.parts(0, 4));
        refused(INDEX, "parts of none with none", x -> x.parts(4, 4));
        refused(ARGUMENT, "parts with oneself", x -> x.parts(0, 0));
        refused(INDEX, "steady", x -> x.steady(4));
        refused(INDEX, "steady below NONE", x -> x.steady(-2));
        refused(INDEX, "between", x -> x.between(0, 4));
        refused(INDEX, "between none and none", x -> x.between(4, 4));
    }

    private static void searches() {
        refused(INDEX, "way", x -> x.way(4, 0));
        refused(INDEX, "way to a ROOM", x -> x.way(0, 6));
        refused(INDEX, "unseen", x -> x.unseen(0, 4));
        refused(INDEX, "unseen of none with none", x -> x.unseen(4, 4));
        refused(ARGUMENT, "unseen with oneself", x -> x.unseen(0, 0));
        refused(ARGUMENT, "trap of none", x -> x.trap(0, false));
        refused(ARGUMENT, "trap of seven", x -> x.trap(7, true));
        refused(INDEX, "oath", x -> x.oath(4, 0));
        refused(INDEX, "shortest", x -> x.shortest(4));
        refused(INDEX, "alibi", x -> x.alibi(4));
        refused(INDEX, "odds", x -> x.odds(4, 0));
        refused(INDEX, "odds of none with none", x -> x.odds(4, 4));
        refused(ARGUMENT, "odds with oneself", x -> x.odds(2, 2));
    }

    private static void daysToCome() {
        refused(INDEX, "ahead", x -> x.ahead(4, 0, false));
        refused(INDEX, "ahead, both", x -> x.ahead(4, 401, true));
        refused(ARGUMENT, "ahead below", x -> x.ahead(0, -1, false));
        refused(ARGUMENT, "ahead above", x -> x.ahead(0, 401, true));
        refused(ARGUMENT, "calm below", x -> x.calm(-1));
        refused(ARGUMENT, "calm above", x -> x.calm(401));
        refused(ARGUMENT, "trial below", x -> x.trial(-1, false));
        refused(ARGUMENT, "trial above", x -> x.trial(61, true));
        refused(ARGUMENT, "span below", x -> x.span(-1, true));
        refused(ARGUMENT, "span above", x -> x.span(61, false));
    }

    private static void tapes() {
        String[] wrong = {Check.bytes(0), Check.bytes(0, 4, 0), Check.bytes(2, 1, 0), Check.bytes(new int[39]), ON_TAPE};
        for (String rows : wrong) {
            for (int call = 0; call < 3; call++) {
                SharedCup x = standing(1);
                Check.put(x, rows);
                int which = call;
                refused(ARGUMENT, "call " + call + " of " + rows.length() + " bytes", WRONG_BYTE, x,
                    y -> { int answer = which == 0 ? y.look() : y.drank(which == 1); });
            }
        }
    }

    private static void texts() {
        String wrong = "person at 1;binds 1;flour cd;lasts 1;day 9;bond 0 1 1 till 1;x";
        SharedCup house = standing(1);
        Check.put(house, wrong);
        refused(ARGUMENT, "house", wrong.length() - 1, house, SharedCup::house);
        SharedCup law = standing(1);
        Check.put(law, "bind 9;last 9;suspect 9;bind");
        refused(ARGUMENT, "law", 28, law, SharedCup::law);
        SharedCup wrong13 = standing(12);
        Check.put(wrong13, wrong);
        refused(ARGUMENT, "a wrong 13th house", wrong.length() - 1, wrong13, SharedCup::house);
        SharedCup right13 = standing(12);
        refused(UNSUPPORTED, "a right 13th house", -1, right13, SharedCup::house);
        SharedCup law13 = standing(12);
        Check.put(law13, "x");
        refused(ARGUMENT, "a wrong law with 12 houses", 0, law13, SharedCup::law);
    }
}

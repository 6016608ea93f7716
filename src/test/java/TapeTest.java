/** Promises 1 to 3 and 6: a new object, feed, end, fault. */
public final class TapeTest {
    private static final Check CHECK = new Check();

    public static void main(String[] args) {
        aNewObject();
        feed();
        end();
        fault();
        CHECK.close();
    }

    private static void aNewObject() {
        SharedCup x = new SharedCup();
        int[] counts = {0, 0, -1, 0, 0, 5, 100, 0, 0, 0, 0, 0, 0};
        for (int what = 0; what < counts.length; what++) {
            CHECK.is("count(" + what + ") of a new one", x.count(what), counts[what]);
        }
        CHECK.is("fault() of a new one", x.fault(), -1);
        CHECK.is("SEED of a new one", x.seed(7), 1);
        CHECK.no("undo() of a new one", x.undo());
        CHECK.no("back() of a new one", x.back());
        CHECK.is("ends() of a new one", x.ends(), 0);
        CHECK.is("free(0) of a new one", x.free(0), 0);
        CHECK.is("hub() of a new one", x.hub(), -1);
        CHECK.is("fondest() of a new one", x.fondest(), 0);
        CHECK.is("steady(NONE) of a new one: the way without a pair", x.steady(-1), 1);
        CHECK.is("tell() of a new one", x.tell(), 0);
        CHECK.is("calm(400) of a new one", x.calm(400), 400);
        CHECK.is("widest(0, 2) of a new one", x.widest(0, 2), -1);
        CHECK.is("trap(6, false) of a new one", x.trap(6, false), 63);
        CHECK.is("drank(false) of a new one", x.drank(false), 1);
        CHECK.is("drank(true) of a new one", x.drank(true), 0);
        CHECK.is("look() of a new one", x.look(), -1);
        CHECK.index("person(0, 0) of a new one", () -> x.person(0, 0));
        CHECK.argument("share(3, 0) of a new one", () -> x.share(3, 0));
        CHECK.argument("share(-1, 0) of a new one", () -> x.share(-1, 0));
    }

    private static void feed() {
        SharedCup x = new SharedCup();
        for (int k = 1; k <= 20; k++) {
            CHECK.is("feed " + k, x.feed(0x20202020, 0x20202020, 0x20202020, 0x20202020, 0x20202020), 20 * k);
        }
        CHECK.is("feed 21", x.feed(0, 0, 0, 0, 0), -1);
        CHECK.is("400 blanks are a text", x.house(), 1);
        CHECK.is("the tape is used up", x.feed(0, 0, 0, 0, 0), 20);
        CHECK.yes("end(0)", x.end(0));
        // the highest byte of each number comes first
        CHECK.is("feed of a text", x.feed(0x6c617374, 0x73203132, 0x33202020, 0x20202020, 0x20202020), 20);
        CHECK.is("house()", x.house(), 2);
        CHECK.is("LASTS", x.count(6), 123);
        CHECK.yes("end(0)", x.end(0));
        CHECK.is("feed with high bytes", x.feed(0x20202020, 0x202020ff, -1, -1, -1), 20);
        CHECK.argument("a text with the byte 255", x::house);
        CHECK.is("its place", x.fault(), 7);
        // 381 bytes and twenty more would be 401; 380 and twenty are 400
        for (int k = 0; k < 20; k++) {
            x.feed(0, 0, 0, 0, 0);
        }
        CHECK.yes("end(381)", x.end(381));
        CHECK.is("feed behind 381", x.feed(0, 0, 0, 0, 0), -1);
        CHECK.yes("none came", x.end(381));
        CHECK.no("none came at all", x.end(382));
        CHECK.yes("end(380)", x.end(380));
        CHECK.is("feed behind 380", x.feed(0, 0, 0, 0, 0), 400);
    }

    private static void end() {
        SharedCup x = new SharedCup();
        CHECK.yes("end(0) of an empty tape", x.end(0));
        CHECK.no("end(1) of an empty tape", x.end(1));
        x.feed(0x64617920, 0x35353535, 0, 0, 0);
        CHECK.no("end(21)", x.end(21));
        CHECK.no("end(-1)", x.end(-1));
        CHECK.no("end(MIN)", x.end(Integer.MIN_VALUE));
        CHECK.no("end(MAX)", x.end(Integer.MAX_VALUE));
        CHECK.yes("end(20)", x.end(20));
        CHECK.yes("end(6)", x.end(6));
        CHECK.no("end(7)", x.end(7));
        CHECK.is("feed behind it", x.feed(0x20202020, 0x20202020, 0x20202020, 0x20202020, 0x20202020), 26);
        CHECK.is("house()", x.house(), 1);
        CHECK.is("DAY", x.count(3), 55);
    }

    private static void fault() {
        SharedCup x = new SharedCup();
        CHECK.argument("a wrong text", () -> Check.house(x, "day 5;;"));
        CHECK.is("fault()", x.fault(), 6);
        CHECK.is("it stays", x.fault(), 6);
        CHECK.argument("a wrong tape for drank", () -> drank(x, Check.bytes(0, 0)));
        CHECK.is("a tape for drank is no text", x.fault(), 6);
        Check.law(x, "bind 5");
        CHECK.is("a right text has none", x.fault(), -1);
        CHECK.argument("a wrong law", () -> Check.law(x, "bind x"));
        CHECK.is("fault() of the law", x.fault(), 5);
        x.image();
        Check.house(x, "person at 0");
        CHECK.is("a right house has none", x.fault(), -1);
        CHECK.argument("a wrong law again", () -> Check.law(x, " z"));
        x.go(0, 3);
        CHECK.yes("undo()", x.undo());
        CHECK.is("undo() leaves it", x.fault(), 1);
        CHECK.yes("back()", x.back());
        CHECK.is("back() leaves it", x.fault(), 1);
        x.image();
        CHECK.is("feed()", x.feed(1, 2, 3, 4, 5), 20);
        CHECK.yes("back()", x.back());
        CHECK.is("back() leaves the tape", x.feed(1, 2, 3, 4, 5), 40);
    }

    private static int drank(SharedCup x, String rows) {
        Check.put(x, rows);
        return x.drank(false);
    }
}

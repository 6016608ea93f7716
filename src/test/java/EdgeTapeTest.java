/** Edges of promises 1 to 3 and 6: each method holds one sentence of the document. */
public final class EdgeTapeTest {
    private static final Check CHECK = new Check();
    private static final int BLANKS = 0x20202020;

    public static void main(String[] args) {
        twentyBytesHighestFirst();
        bytesAreNotSigned();
        aFullTapeTakesNoMore();
        whatDoesNotComeChangesNothing();
        endAtItsLength();
        endOfAnEmptyTape();
        endBelowZero();
        endAtNothing();
        endCutsForGood();
        faultAheadOfAny();
        faultAtTheFirstByte();
        faultAtTheLastByteOfAFullTape();
        faultAtTheLengthOfAFullTape();
        faultAtTheLengthOfNoByte();
        faultIsOfTheLatestText();
        faultIsLeftAloneByAllElse();
        CHECK.close();
    }

    /** "Twenty bytes come behind the TAPE, of each number the highest first: how many it has" */
    private static void twentyBytesHighestFirst() {
        SharedCup x = new SharedCup();
        CHECK.is("the first twenty", x.feed(0x666c6f75, 0x7220663b, 0x6c617374, 0x7320333b, 0x64617920), 20);
        CHECK.is("twenty behind them", x.feed(0x373b6269, 0x6e647320, 0x34202020, BLANKS, 0x2020203b), 40);
        CHECK.is("twenty more", x.feed(0x70657273, 0x6f6e2061, 0x74203500, 0, 0), 60);
        CHECK.yes("cut behind the last byte that counts", x.end(51));
        CHECK.is("house()", x.house(), 1);
        CHECK.is("FLOUR: the first and second number", x.count(4), 32);
        CHECK.is("LASTS: the third and fourth", x.count(6), 3);
        CHECK.is("DAY: over both feeds", x.count(3), 7);
        CHECK.is("BINDS", x.count(5), 4);
        CHECK.is("ROOM: the third feed", x.person(0, 0), 5);
    }

    /** A byte is 0 to 255, also where a number is below 0. */
    private static void bytesAreNotSigned() {
        SharedCup x = Check.of(Check.people(1));
        x.feed(0x00008000, 0, 0, 0, 0);
        x.end(3);
        CHECK.is("128 drank of one: none fits", x.drank(false), 0);
        x.feed(0x0000ff00, 0, 0, 0, 0);
        x.end(3);
        CHECK.is("255 drank of one: none fits", x.drank(false), 0);
        x.feed(0x00800000, 0, 0, 0, 0);
        x.end(3);
        CHECK.argument("PERSON 128", () -> x.drank(false));
        x.feed(0x80000000, 0, 0, 0, 0);
        x.end(3);
        CHECK.argument("from 128 to 0", () -> x.drank(false));
        // 160 is a blank but for its highest bit, 176 a figure 0
        CHECK.argument("160", () -> Check.house(x, "day 1" + (char) 160));
        CHECK.is("160 is no blank", x.fault(), 5);
        CHECK.argument("176", () -> Check.house(x, "day " + (char) 176));
        CHECK.is("176 is no figure", x.fault(), 4);
        CHECK.argument("228", () -> Check.house(x, (char) 228 + "ay 1"));
        CHECK.is("228 is no letter", x.fault(), 0);
    }

    private static SharedCup full(String text) {
        SharedCup x = new SharedCup();
        Check.put(x, Check.filled(text, 400));
        return x;
    }

    /** "NONE, and none come, if it would have more than 400" */
    private static void aFullTapeTakesNoMore() {
        for (int length = 380; length <= 400; length++) {
            SharedCup x = full("");
            x.end(length);
            CHECK.is("feed behind " + length, x.feed(BLANKS, BLANKS, BLANKS, BLANKS, BLANKS), length == 380 ? 400 : -1);
            CHECK.no("it has no more behind " + length, x.end(length == 380 ? 401 : length + 1));
            CHECK.yes("and no fewer behind " + length, x.end(length == 380 ? 400 : length));
        }
    }

    private static void whatDoesNotComeChangesNothing() {
        SharedCup x = full("lasts 77");
        CHECK.is("feed of other bytes", x.feed(-1, -1, -1, -1, -1), -1);
        CHECK.is("feed of other bytes again", x.feed(0, 0, 0, 0, 0), -1);
        CHECK.is("the text is as it was", x.house(), 1);
        CHECK.is("LASTS", x.count(6), 77);
        CHECK.is("then there is place again", x.feed(-1, -1, -1, -1, -1), 20);
    }

    /** "The TAPE has its first n bytes alone: true; false, and nothing happens, if it has fewer" */
    private static void endAtItsLength() {
        SharedCup x = full("day 5");
        CHECK.no("end(401)", x.end(401));
        CHECK.yes("end(400)", x.end(400));
        CHECK.yes("end(399)", x.end(399));
        CHECK.no("end(400) then", x.end(400));
        CHECK.no("end(MAX)", x.end(Integer.MAX_VALUE));
        CHECK.yes("end(399) again", x.end(399));
        CHECK.is("the text", x.house(), 1);
        CHECK.is("DAY", x.count(3), 5);
    }

    private static void endOfAnEmptyTape() {
        SharedCup x = new SharedCup();
        CHECK.no("end(1) without a byte", x.end(1));
        CHECK.yes("end(0) without a byte", x.end(0));
        CHECK.no("end(20) without a byte", x.end(20));
        CHECK.is("feed then", x.feed(0, 0, 0, 0, 0), 20);
    }

    /** ", or n is below 0" */
    private static void endBelowZero() {
        SharedCup x = full("day 6");
        CHECK.no("end(-1)", x.end(-1));
        CHECK.no("end(-400)", x.end(-400));
        CHECK.no("end(MIN)", x.end(Integer.MIN_VALUE));
        CHECK.yes("nothing happened", x.end(400));
        CHECK.is("the text", x.house(), 1);
        CHECK.is("DAY", x.count(3), 6);
        SharedCup y = new SharedCup();
        CHECK.no("end(-1) without a byte", y.end(-1));
        CHECK.is("feed then", y.feed(0, 0, 0, 0, 0), 20);
    }

    private static void endAtNothing() {
        SharedCup x = full("day 6");
        CHECK.yes("end(0)", x.end(0));
        CHECK.no("end(1)", x.end(1));
        CHECK.is("a text of no byte", x.house(), 1);
        CHECK.is("tells no DAY", x.count(3), 0);
    }

    private static void endCutsForGood() {
        SharedCup x = full("day 123");
        CHECK.yes("end(5)", x.end(5));
        CHECK.is("feed comes behind these", x.feed(BLANKS, BLANKS, BLANKS, BLANKS, BLANKS), 25);
        CHECK.yes("end(7), within what came", x.end(7));
        CHECK.is("house()", x.house(), 1);
        CHECK.is("DAY", x.count(3), 1);
    }

    /** "NONE without one, and ahead of any" */
    private static void faultAheadOfAny() {
        SharedCup x = new SharedCup();
        CHECK.is("ahead of any", x.fault(), -1);
        x.feed(0, 0, 0, 0, 0);
        CHECK.is("of a text that was not read yet", x.fault(), -1);
        CHECK.is("house of none", Check.house(x, ""), 1);
        CHECK.is("of an empty text", x.fault(), -1);
        CHECK.is("law of none", Check.law(x, ""), 0);
        CHECK.is("of an empty law", x.fault(), -1);
    }

    private static void faultAtTheFirstByte() {
        SharedCup x = new SharedCup();
        CHECK.argument("a house of a byte 0", () -> Check.house(x, Check.bytes(0)));
        CHECK.is("fault()", x.fault(), 0);
        CHECK.argument("a law of a byte 0", () -> Check.law(x, Check.bytes(0)));
        CHECK.is("fault() of the law", x.fault(), 0);
    }

    private static void faultAtTheLastByteOfAFullTape() {
        SharedCup x = new SharedCup();
        CHECK.argument("the house's 400th byte", () -> Check.house(x, Check.filled("day 1", 399) + "1"));
        CHECK.is("fault()", x.fault(), 399);
        CHECK.argument("the law's 400th byte", () -> Check.law(x, Check.filled("bind 1", 399) + "x"));
        CHECK.is("fault() of the law", x.fault(), 399);
        CHECK.argument("a text that begins with its 400th byte", () -> Check.house(x, Check.filled("", 399) + ";"));
        CHECK.is("fault() of that", x.fault(), 399);
        CHECK.is("the 400th byte may be right", Check.house(x, Check.filled("day", 399) + "8"), 1);
        CHECK.is("DAY", x.count(3), 8);
        CHECK.is("so in the law", Check.law(x, Check.filled("bind", 399) + "3"), 1);
        CHECK.is("BINDS", x.count(2), 1);
    }

    /** "or the text's length, if more must come" */
    private static void faultAtTheLengthOfAFullTape() {
        SharedCup x = new SharedCup();
        CHECK.argument("a full house that goes on", () -> Check.house(x, Check.filled("day 1", 399) + ";"));
        CHECK.is("fault()", x.fault(), 400);
        CHECK.argument("a full house with a word alone", () -> Check.house(x, Check.filled("day", 400)));
        CHECK.is("blanks belong to it", x.fault(), 400);
        CHECK.argument("a full law that goes on", () -> Check.law(x, Check.filled("bind 1 if", 400)));
        CHECK.is("fault() of the law", x.fault(), 400);
    }

    private static void faultAtTheLengthOfNoByte() {
        SharedCup x = new SharedCup();
        Check.put(x, "day 1;");
        CHECK.yes("a byte that was cut off", x.end(3));
        CHECK.argument("house()", x::house);
        CHECK.is("is not of the text", x.fault(), 3);
    }

    /** "The first wrong byte of the latest text that was read" */
    private static void faultIsOfTheLatestText() {
        SharedCup x = new SharedCup();
        CHECK.argument("a wrong house", () -> Check.house(x, "day 1;x"));
        CHECK.is("fault()", x.fault(), 6);
        CHECK.argument("a wrong law behind it", () -> Check.law(x, "bind"));
        CHECK.is("fault() of the law", x.fault(), 4);
        CHECK.argument("a wrong house behind that", () -> Check.house(x, "x"));
        CHECK.is("fault() of the house", x.fault(), 0);
        CHECK.is("a right law", Check.law(x, "bind 1"), 1);
        CHECK.is("has none", x.fault(), -1);
    }

    private static void faultIsLeftAloneByAllElse() {
        SharedCup x = Check.of(Check.people(2));
        CHECK.argument("a wrong house", () -> Check.house(x, "day 1;x"));
        x.image();
        x.share(3, 0);
        CHECK.yes("undo()", x.undo());
        CHECK.yes("back()", x.back());
        CHECK.is("drank()", x.drank(false), 4);
        CHECK.is("look()", x.look(), 0);
        CHECK.no("end(9)", x.end(9));
        x.feed(0, 0, 0, 0, 0);
        CHECK.argument("a wrong tape for drank", () -> x.drank(true));
        x.feed(0, 0, 0, 0, 0);
        CHECK.argument("a wrong tape for look", x::look);
        CHECK.is("fault() is still of the text", x.fault(), 6);
    }
}

/** Edges of promise 4, a text of THE HOUSE: each method holds one sentence of the document. */
public final class EdgeHouseTest {
    private static final Check CHECK = new Check();

    public static void main(String[] args) {
        rooms();
        peopleAtMostEight();
        personTooManyIsItsFirstWord();
        personThatThereIsByThen();
        secondIsNotTheFirst();
        figuresAsManyAsPeople();
        likingFromNoughtToNine();
        ownFigureIsNotLookedAt();
        wedByThen();
        flourLetters();
        flourInPlaceOfThatBefore();
        numbersAndTheirBounds();
        numbersOfOneToThreeDigits();
        wordsGoOn();
        blanksBetweenAll();
        fourteenLines();
        lineTooManyIsItsFirstWord();
        moreMustCome();
        noLine();
        twelveTexts();
        thirteenthText();
        thirteenthBehindAnImage();
        ofAWrongTextNothingStays();
        usesTheTapeUp();
        CHECK.close();
    }

    private static void right(String text) {
        right(text, 2);
    }

    private static void right(String text, int people) {
        SharedCup x = Check.of(Check.people(people));
        Check.put(x, text);
        int got = -1;
        try {
            got = x.house();
        } catch (IllegalArgumentException wrong) {
            got = -2;
        }
        CHECK.is("\"" + text + "\" is right", got, 2);
        CHECK.is("fault of \"" + text + "\"", x.fault(), -1);
    }

    private static void wrong(String text, int at) {
        wrong(text, 2, at);
    }

    private static void wrong(String text, int people, int at) {
        SharedCup x = people == 0 ? new SharedCup() : Check.of(Check.people(people));
        String before = Check.all(x);
        CHECK.argument("\"" + text + "\"", () -> Check.house(x, text));
        CHECK.is("fault of \"" + text + "\"", x.fault(), at);
        CHECK.same("all behind \"" + text + "\"", Check.all(x), before);
    }

    /** "ROOMS 0 to 5" */
    private static void rooms() {
        for (int room = 0; room <= 5; room++) {
            CHECK.is("person at " + room, Check.of("person at " + room).person(0, 0), room);
        }
        wrong("person at 6", 0, 10);
        wrong("person at 999", 0, 10);
        wrong("person at f", 0, 10);
        wrong("person at -1", 0, 10);
    }

    /** "PEOPLE (at most 8, numbered from 0 on)" */
    private static void peopleAtMostEight() {
        SharedCup x = Check.of("person at 0;person at 1;person at 2;person at 3;person at 4;person at 5;person at 4");
        CHECK.is("seven", x.count(0), 7);
        CHECK.is("an eighth", Check.house(x, "person at 3"), 2);
        CHECK.is("eight", x.count(0), 8);
        int[] rooms = {0, 1, 2, 3, 4, 5, 4, 3};
        for (int person = 0; person < 8; person++) {
            CHECK.is("by numbers: " + person, x.person(person, 0), rooms[person]);
        }
        CHECK.argument("a ninth", () -> Check.house(x, "person at 3"));
        CHECK.is("still eight", x.count(0), 8);
        CHECK.is("other LINES may come", Check.house(x, "day 3;likes 7 12345678"), 3);
    }

    /** "of a LINE, a PERSON too many, the first word" */
    private static void personTooManyIsItsFirstWord() {
        wrong("person at 0", 8, 0);
        wrong("day 4; person at 0", 8, 7);
        wrong(" person", 8, 1);
        wrong("person at 9", 8, 0);
        wrong("person to 0", 8, 0);
        wrong(Check.times("person at 1", 9, ";"), 0, 8 * 12);
        wrong("person at 1;person at 1", 7, 12);
    }

    /** "H: a PERSON that there is by then, the second not the first one, else it is wrong" */
    private static void personThatThereIsByThen() {
        right("likes 0 00;likes 1 00");
        right("bond 0 1 1 till 1;bond 1 0 1 till 1");
        wrong("likes 2 00", 6);
        wrong("likes 0 0", 0, 6);
        wrong("wed 0 1", 0, 4);
        wrong("wed 0 1", 1, 6);
        wrong("bond 0 1 1 till 1", 0, 5);
        wrong("bond 0 1 1 till 1", 1, 7);
        wrong("bond 0 2 1 till 1", 7);
        wrong("bond 2 0 1 till 1", 5);
        wrong("likes 2 000;person at 0", 6);
        right("person at 0;likes 2 000");
        wrong("wed 0 2;person at 0", 6);
        right("person at 0;wed 0 2");
        wrong("bond 2 1 1 till 1;person at 0", 5);
        right("person at 0;bond 2 1 1 till 1");
        right("likes 7 00000000;wed 7 0;bond 0 7 1 till 1", 8);
        wrong("likes 8 00000000", 8, 6);
        wrong("wed 7 8", 8, 6);
        wrong("bond 8 7 1 till 1", 8, 5);
    }

    private static void secondIsNotTheFirst() {
        wrong("wed 0 0", 6);
        wrong("wed 1 001", 6);
        wrong("bond 0 0 1 till 1", 7);
        wrong("bond 1 01 1 till 1", 7);
        wrong("wed 0 0", 1, 6);
        wrong("bond 0 0 1 till 1", 1, 7);
    }

    /** "F: as many figures as there are PEOPLE by then" */
    private static void figuresAsManyAsPeople() {
        right("likes 0 5", 1);
        wrong("likes 0 55", 1, 8);
        wrong("likes 0", 1, 7);
        right("likes 0 12345678", 8);
        wrong("likes 0 1234567", 8, 8);
        wrong("likes 0 123456789", 8, 8);
        wrong("likes 0 1234 5678", 8, 8);
        wrong("likes 0 1", 8);
        wrong("likes 0 111", 8);
        wrong("likes 0 111;person at 0", 8);
        right("likes 0 11;person at 0;likes 0 111");
        wrong("likes 0 11;person at 0;likes 0 11", 31);
        wrong("likes 0 1a", 8);
        wrong("likes 0 a1", 8);
        wrong("likes 0 11a", 10);
        wrong("likes 0 ;", 8);
    }

    /** "a LIKING 0 to 9 of each other one (0 at first)" */
    private static void likingFromNoughtToNine() {
        SharedCup x = Check.of(Check.people(8));
        CHECK.is("at first", x.liking(7, 0), 0);
        Check.house(x, "likes 7 90123459;likes 0 09876540");
        int[] seven = {9, 0, 1, 2, 3, 4, 5};
        int[] nought = {9, 8, 7, 6, 5, 4, 0};
        for (int k = 0; k < 7; k++) {
            CHECK.is("liking(7, " + k + ")", x.liking(7, k), seven[k]);
            CHECK.is("liking(0, " + (k + 1) + ")", x.liking(0, k + 1), nought[k]);
        }
        CHECK.is("that of others stays", x.liking(3, 0), 0);
        Check.house(x, "likes 7 00000000");
        CHECK.is("in place of that before", x.liking(7, 0), 0);
    }

    /** "LIKING of each by numbers, one's own not looked at" */
    private static void ownFigureIsNotLookedAt() {
        SharedCup x = Check.of(Check.people(3), "likes 0 900;likes 1 090;likes 2 009");
        CHECK.is("fondest()", x.fondest(), 0);
        CHECK.is("GLADDER of 0", x.person(0, 6), 0);
        CHECK.is("GLADDER of 2", x.person(2, 6), 0);
        CHECK.is("lovers", x.lovers(false), 0);
        CHECK.is("steady", x.steady(-1), 3);
    }

    /** "wed: none of both is WED by then, else that H is wrong" */
    private static void wedByThen() {
        right("wed 0 1;wed 2 3", 4);
        right("wed 0 7;wed 6 1;wed 2 5;wed 4 3", 8);
        wrong("wed 0 1;wed 0 1", 12);
        wrong("wed 0 1;wed 0 2", 3, 12);
        wrong("wed 0 1;wed 1 2", 3, 12);
        wrong("wed 0 1;wed 2 0", 3, 14);
        wrong("wed 0 1;wed 2 1", 3, 14);
        wrong("wed 0 1;wed 0 0", 12);
        wrong("wed 0 1;wed 0", 12);
        wrong("wed 0 1;wed 2 2", 3, 14);
        SharedCup x = Check.of("person at 0;person at 0;person at 0;wed 0 1");
        CHECK.argument("WED by a text before", () -> Check.house(x, "wed 2 1"));
        CHECK.is("its fault", x.fault(), 6);
        SharedCup y = Check.of(Check.people(3));
        y.wed(0, 1);
        CHECK.argument("WED by an act", () -> Check.house(y, "wed 2 0"));
        CHECK.is("its fault then", y.fault(), 6);
        CHECK.yes("the act is still remembered", y.undo());
        CHECK.is("and then they may be", Check.house(y, "wed 2 0"), 2);
    }

    /** "S: a word of letters a to f, none twice: ROOMS 0 to 5 that have FLOUR" */
    private static void flourLetters() {
        for (int room = 0; room <= 5; room++) {
            CHECK.is("flour of " + room, Check.of("flour " + (char) ('a' + room)).count(4), 1 << room);
        }
        CHECK.is("flour abcdef", Check.of("flour abcdef").count(4), 63);
        CHECK.is("flour fedcba", Check.of("flour fedcba").count(4), 63);
        wrong("flour g", 6);
        wrong("flour z", 6);
        wrong("flour A", 6);
        wrong("flour abcdefg", 6);
        wrong("flour aa", 6);
        wrong("flour fabcdef", 6);
        wrong("flour abcdea", 6);
        wrong("flour 0", 6);
        wrong("flour", 5);
        wrong("flour ;day 1", 6);
        wrong("flour ab cd", 9);
        wrong("flour ab1", 8);
        wrong("flour az", 6);
        wrong("floura", 0);
    }

    /** "in place of those before" */
    private static void flourInPlaceOfThatBefore() {
        SharedCup x = Check.of("flour abc;flour f");
        CHECK.is("in one text", x.count(4), 32);
        x.strew(1, true);
        Check.house(x, "flour a");
        CHECK.is("in the next, also of what was strewn", x.count(4), 1);
        Check.house(x, "day 1");
        CHECK.is("a text without it leaves it", x.count(4), 1);
    }

    private static void bounds(String ahead, String behind, int least, int most) {
        right(ahead + least + behind);
        right(ahead + most + behind);
        if (least > 0) {
            wrong(ahead + (least - 1) + behind, ahead.length());
        }
        wrong(ahead + (most + 1) + behind, ahead.length());
    }

    /** "BINDS 1 to 9", "LASTS 1 to 400", "bond: 1 to 9; till: 1 to 999; day: 0 to 999" */
    private static void numbersAndTheirBounds() {
        bounds("binds ", "", 1, 9);
        bounds("lasts ", "", 1, 400);
        bounds("bond 0 1 ", " till 5", 1, 9);
        bounds("bond 0 1 5 till ", "", 1, 999);
        bounds("day ", "", 0, 999);
        bounds("person at ", "", 0, 5);
        SharedCup x = Check.of(Check.people(2), "binds 1;lasts 1;day 999;bond 0 1 9 till 999");
        CHECK.is("BINDS", x.count(5), 1);
        CHECK.is("LASTS", x.count(6), 1);
        CHECK.is("DAY", x.count(3), 999);
        CHECK.is("a BOND till 999 does not hold on DAY 999", x.bond(0, 1, false), 0);
        Check.house(x, "day 998");
        CHECK.is("but on the DAY before", x.bond(0, 1, false), 9);
        Check.house(x, "day 0;binds 9;lasts 400;bond 0 1 1 till 1");
        CHECK.is("DAY 0", x.count(3), 0);
        CHECK.is("BINDS 9", x.count(5), 9);
        CHECK.is("LASTS 400", x.count(6), 400);
        CHECK.is("the least BOND", x.bond(1, 0, false), 1);
        CHECK.is("the least TILL", x.bond(1, 0, true), 1);
    }

    /** "Numbers are of 1 to 3 digits." "a number of more digits" */
    private static void numbersOfOneToThreeDigits() {
        right("binds 09");
        right("binds 009");
        wrong("binds 0009", 6);
        right("day 000");
        wrong("day 0000", 4);
        wrong("day 00000000000000000000", 4);
        wrong("day 4294967296", 4);
        wrong("day 99999999999", 4);
        right("person at 005;likes 002 000;wed 001 000;bond 000 001 009 till 001");
        wrong("likes 0000 00", 6);
        wrong("wed 0000 1", 4);
        wrong("wed 0 0001", 6);
        wrong("bond 0 1 0009 till 1", 9);
        wrong("bond 0 1 9 till 0001", 16);
        wrong("person at 0000", 10);
    }

    /** "Words are as long as a to z go on" */
    private static void wordsGoOn() {
        right("person at0;likes0 000;binds9;lasts9;day9;bond0 1 9till9;wed0 1");
        wrong("personat 0", 0);
        wrong("person atx 0", 7);
        wrong("persona", 0);
        wrong("personz at 0", 0);
        wrong("zperson at 0", 0);
        wrong("person{at 0", 6);
        wrong("person`at 0", 6);
        wrong("perso", 0);
        wrong("Person at 0", 0);
        wrong("bond 0 1 9 tills 9", 11);
        wrong("bond 0 1 9 til 9", 11);
        wrong("days 9", 0);
        wrong("da 9", 0);
        wrong("daY 9", 0);
        wrong("bind 9", 0);
        wrong("last 9", 0);
    }

    /** "between all there may be blanks (32), also ahead and behind" */
    private static void blanksBetweenAll() {
        right("   person   at   0   ;   likes   2   000   ;   bond   0   1   9   till   9   ");
        right("  day 1");
        right("day 1  ");
        right(Check.filled("day 1", 400));
        right(" ".repeat(395) + "day 1");
        for (int other : new int[] {0, 9, 10, 13, 31, 33, 160}) {
            wrong("day" + (char) other + "1", 3);
        }
        wrong("per son at 0", 0);
        wrong("day 1 1", 6);
        wrong("day 1 ; ; day 1", 8);
    }

    /** "LINE { ; LINE }, at most 14" */
    private static void fourteenLines() {
        right("day 1");
        right(Check.times("day 1", 13, ";"));
        right(Check.times("day 1", 14, ";"));
        SharedCup x = Check.of(Check.times("day 1", 13, ";") + ";day 7");
        CHECK.is("the 14th LINE counts", x.count(3), 7);
        CHECK.is("14 in each text", Check.house(x, Check.times("day 1", 13, ";") + ";lasts 7"), 2);
        CHECK.is("the 14th of the second", x.count(6), 7);
    }

    private static void lineTooManyIsItsFirstWord() {
        String fourteen = Check.times("day 1", 14, ";");
        wrong(fourteen + ";day 1", 84);
        wrong(fourteen + ";  day", 86);
        wrong(fourteen + ";cup", 84);
        wrong(fourteen + ";5", 84);
        wrong(fourteen + ";;", 84);
        wrong(fourteen + " day", 84);
    }

    /** "or the text's length, if more must come" */
    private static void moreMustCome() {
        String[] begun = {"person", "person at", "person at 0;", "likes", "likes 0", "wed", "wed 0", "flour", "binds", "lasts",
            "bond", "bond 0", "bond 0 1", "bond 0 1 9", "bond 0 1 9 till", "day", "day 1;"};
        for (String text : begun) {
            wrong(text, text.length());
            wrong(text + "   ", text.length() + 3);
        }
        wrong("bond 0 1 till 5", 9);
        wrong("bond 0 till 5", 7);
        wrong("bond till 5", 5);
        wrong("person 0", 7);
        wrong(Check.times("day 1", 14, ";") + ";", 84);
        wrong(Check.times("day 1", 14, ";") + ";  ", 86);
    }

    /** "A text that is empty, or blanks alone, has no LINE." */
    private static void noLine() {
        right("");
        right(" ");
        right(" ".repeat(400));
        wrong(";", 0);
        wrong(" ;", 1);
        wrong("day 1;;day 1", 6);
        wrong(";day 1", 0);
    }

    /** "THE HOUSE is told in texts (at most 12, one behind another)" */
    private static void twelveTexts() {
        SharedCup x = new SharedCup();
        for (int text = 1; text <= 12; text++) {
            CHECK.is("text " + text, Check.house(x, "day " + text), text);
        }
        CHECK.is("the 12th counts", x.count(3), 12);
        CHECK.is("texts", x.count(1), 12);
    }

    private static SharedCup told(int texts) {
        SharedCup x = Check.of(Check.people(2));
        for (int text = 1; text < texts; text++) {
            Check.house(x, "");
        }
        return x;
    }

    /** "IllegalArgumentException: it is wrong; UnsupportedOperationException: there are 12." */
    private static void thirteenthText() {
        SharedCup x = told(12);
        x.go(0, 4);
        String before = Check.all(x);
        CHECK.unsupported("a right one", () -> Check.house(x, "day 9;flour a"));
        CHECK.is("has no wrong byte", x.fault(), -1);
        CHECK.no("it is used up", x.end(1));
        CHECK.unsupported("an empty one", () -> Check.house(x, ""));
        CHECK.argument("a wrong one is wrong first", () -> Check.house(x, "day 9;flour"));
        CHECK.is("and has a wrong byte", x.fault(), 11);
        CHECK.no("it is used up, too", x.end(1));
        CHECK.same("all is as it was", Check.all(x), before);
        CHECK.yes("the act may be undone", x.undo());
        SharedCup y = told(11);
        CHECK.argument("wrong ones", () -> Check.house(y, "x"));
        CHECK.argument("do not count", () -> Check.house(y, "x"));
        CHECK.is("the 12th", Check.house(y, ""), 12);
    }

    private static void thirteenthBehindAnImage() {
        SharedCup x = told(11);
        x.image();
        CHECK.is("the 12th", Check.house(x, "day 4"), 12);
        CHECK.unsupported("the 13th", () -> Check.house(x, "day 5"));
        CHECK.yes("back()", x.back());
        CHECK.is("texts", x.count(1), 11);
        CHECK.is("the 12th again", Check.house(x, "day 6"), 12);
        CHECK.is("DAY", x.count(3), 6);
    }

    /** "Of a wrong text nothing stays." */
    private static void ofAWrongTextNothingStays() {
        String all = "person at 3;likes 0 999;wed 0 2;flour bcd;binds 7;lasts 9;bond 0 1 9 till 9;day 8;";
        wrong(all + "x", all.length());
        wrong(all, all.length());
        wrong(all + "day 1000", all.length() + 4);
        SharedCup x = Check.of(Check.people(2));
        CHECK.argument("a wrong one", () -> Check.house(x, all + "x"));
        CHECK.is("then a right one", Check.house(x, "person at 5"), 2);
        CHECK.is("PEOPLE", x.count(0), 3);
        CHECK.is("of whom none is WED", x.count(8), 0);
        CHECK.is("nor bound", x.count(9), 0);
        CHECK.is("nor liked", x.liking(0, 2), 0);
        CHECK.is("ROOM", x.person(2, 0), 5);
    }

    /** "Uses the TAPE up" */
    private static void usesTheTapeUp() {
        SharedCup x = new SharedCup();
        Check.house(x, "day 7");
        CHECK.no("a right text", x.end(1));
        CHECK.is("a text of nothing", x.house(), 2);
        CHECK.is("DAY stays", x.count(3), 7);
        CHECK.argument("a wrong text", () -> Check.house(x, "day"));
        CHECK.no("is used up", x.end(1));
        CHECK.is("a text of nothing again", x.house(), 3);
    }
}

/** Edges of promises 5 and 10, THE LAW and what it tells: each method holds one sentence of the document. */
public final class EdgeLawTest {
    private static final Check CHECK = new Check();

    public static void main(String[] args) {
        twelveLines();
        lineTooManyIsItsFirstWord();
        noLine();
        amounts();
        numbersOfSums();
        sixDeep();
        seventhDeep();
        depthEndsWithItsAtom();
        wordsGoOn();
        blanksBetweenAll();
        moreMustCome();
        whatCannotStandThere();
        inPlaceOfTheOneBefore();
        ofAWrongLawNothingStays();
        daysKeepToTheLawThatIsRight();
        imageIsOfTheLawThatIsRight();
        fullTape();
        deepestAndLongest();
        bindsNineAtMost();
        lastsWithoutABound();
        suspectsWithoutAText();
        sipAndManyAreNoughtThere();
        oneIsTheLesser();
        bindLinesAskOfBoth();
        belowAndAbove();
        wedAndBound();
        wedAndBoundAmongOthers();
        eachKindAsksAnew();
        likingOfBoth();
        dayToTheLast();
        andBeforeOr();
        toldNumbers();
        toldWhat();
        toldThrowsTheFirst();
        CHECK.close();
    }

    private static SharedCup two() {
        return Check.of(Check.people(2));
    }

    private static void right(String text, int lines) {
        SharedCup x = two();
        Check.put(x, text);
        int got;
        try {
            got = x.law();
        } catch (IllegalArgumentException wrong) {
            got = -2;
        }
        CHECK.is("\"" + text + "\"", got, lines);
        CHECK.is("fault of \"" + text + "\"", x.fault(), -1);
        CHECK.is("LINES of \"" + text + "\"", x.count(2), lines);
    }

    private static void wrong(String text, int at) {
        SharedCup x = two();
        String before = Check.all(x);
        CHECK.argument("\"" + text + "\"", () -> Check.law(x, text));
        CHECK.is("fault of \"" + text + "\"", x.fault(), at);
        CHECK.same("all behind \"" + text + "\"", Check.all(x), before);
        CHECK.no("the tape behind \"" + text + "\"", x.end(1));
    }

    private static void condition(String condition, int at) {
        wrong("bind 1 if " + condition, 10 + at);
    }

    /** Whether it holds for the two, by a cup of so many with a SIP. */
    private static boolean holds(SharedCup x, String condition, int sip, int many) {
        Check.law(x, "last 7 if " + condition);
        return x.told(0, 1, sip, many, 1) == x.count(6) + 7;
    }

    /** "LINE { ; LINE }, at most 12" */
    private static void twelveLines() {
        right("bind 1", 1);
        right(Check.times("bind 1", 11, ";"), 11);
        right(Check.times("last 1", 12, ";"), 12);
        SharedCup x = two();
        Check.law(x, Check.times("last 1", 11, ";") + ";last 30 if not wed");
        CHECK.is("the 12th LINE counts", x.told(0, 1, 0, 2, 1), 100 + 11 + 30);
    }

    /** "of a LINE, a PERSON too many, the first word" */
    private static void lineTooManyIsItsFirstWord() {
        String twelve = Check.times("last 1", 12, ";");
        wrong(twelve + ";last 1", 84);
        wrong(twelve + ";  last", 86);
        wrong(twelve + ";cup", 84);
        wrong(twelve + ";7", 84);
        wrong(twelve + ";;", 84);
        wrong(twelve + ";", 84);
        wrong(twelve + ";  ", 86);
    }

    /** "A text that is empty, or blanks alone, has no LINE." */
    private static void noLine() {
        right("", 0);
        right(" ", 0);
        right(" ".repeat(400), 0);
        wrong(";", 0);
        wrong("  ;", 2);
        wrong(";bind 1", 0);
        wrong("bind 1;;bind 1", 7);
        CHECK.is("without a text", two().count(2), -1);
    }

    /** "(N 0 to 99)" */
    private static void amounts() {
        for (String kind : new String[] {"bind ", "last ", "suspect "}) {
            right(kind + "0", 1);
            right(kind + "99", 1);
            right(kind + "099", 1);
            wrong(kind + "100", kind.length());
            wrong(kind + "999", kind.length());
            wrong(kind + "0099", kind.length());
            wrong(kind + "-1", kind.length());
            wrong(kind + "sip", kind.length());
        }
        SharedCup x = two();
        Check.law(x, "bind 0;last 0;suspect 0");
        CHECK.is("BINDS and 0", x.told(0, 1, 0, 2, 0), 5);
        CHECK.is("LASTS and 0", x.told(0, 1, 0, 2, 1), 100);
        CHECK.is("SUSPECTS 0", x.told(0, 1, 0, 2, 2), 0);
        Check.law(x, "last 99;suspect 99");
        CHECK.is("LASTS and 99", x.told(0, 1, 0, 2, 1), 199);
        CHECK.is("SUSPECTS 99", x.told(0, 1, 0, 2, 2), 99);
    }

    /** "All numbers are of 1 to 3 digits" */
    private static void numbersOfSums() {
        SharedCup x = two();
        CHECK.yes("0 < 999", holds(x, "0 < 999", 0, 2));
        CHECK.yes("000 < 001", holds(x, "000 < 001", 0, 2));
        CHECK.no("999 < 999", holds(x, "999 < 999", 0, 2));
        CHECK.yes("999 < 999 + 1", holds(x, "999 < 999 + 1", 0, 2));
        condition("1000 > 1", 0);
        condition("0001 > 1", 0);
        condition("1 > 1000", 4);
        condition("1 > 0000", 4);
        condition("1 + 1000 > 1", 4);
        condition("1 > 1 + 1000", 8);
        condition("4294967297 > 1", 0);
        condition("-1 < 1", 0);
    }

    /** "( and not within one another at most 6 deep" */
    private static void sixDeep() {
        right("bind 1 if ((((((wed))))))", 1);
        right("bind 1 if not not not not not not wed", 1);
        right("bind 1 if not (not (not (wed)))", 1);
        right("bind 1 if (not (not (not wed)))", 1);
        right("bind 1 if ((((((1 < 2))))))", 1);
        right("bind 1 if ((((((wed or bound and 1 > 2))))) and wed)", 1);
        SharedCup x = two();
        CHECK.yes("not, six times", holds(x, "not not not not not not 1 < 2", 0, 2));
        CHECK.no("not, five times", holds(x, "not not not not not 1 < 2", 0, 2));
    }

    /** "the ( or not that is a 7th one deep" */
    private static void seventhDeep() {
        condition("(((((((wed)))))))", 6);
        condition("(((((((", 6);
        condition("not not not not not not not wed", 24);
        condition("not(not(not(not wed)))", 12);
        condition("(not(not(not(wed))))", 12);
        condition("((((((not wed))))))", 6);
        condition("not not not not not not (wed)", 24);
        condition("not not not not not not x", 24);
        condition("((((((", 6);
        condition("((((((x", 6);
    }

    /** Depth is of what stands within one another, not of what stands side by side. */
    private static void depthEndsWithItsAtom() {
        right("bind 1 if not wed and not wed and not wed and not wed and not wed and not wed and not wed and not wed", 1);
        right("bind 1 if (wed) or (wed) or (wed) or (wed) or (wed) or (wed) or (wed) or (wed)", 1);
        right("bind 1 if ((((((wed)))))) and ((((((wed))))))", 1);
        right("bind 1 if (((((not wed and not bound or not wed)))))", 1);
        right("bind 1 if ((((((wed))))));bind 1 if ((((((wed))))))", 2);
        condition("((((((wed)))))) and (((((((wed", 26);
    }

    /** "Words are as long as a to z go on" */
    private static void wordsGoOn() {
        right("bind1if wed", 1);
        right("bind 1 if sip<1and many>1or(not(wed))", 1);
        right("last1if 1<2and 2>1;suspect2", 2);
        wrong("bind 1 ifwed", 7);
        wrong("binds 1", 0);
        wrong("bin 1", 0);
        wrong("Bind 1", 0);
        wrong("suspects 1", 0);
        condition("notwed", 0);
        condition("wedand wed", 0);
        condition("wed andwed", 4);
        condition("wed orwed", 4);
        condition("sips < 1", 0);
        condition("si < 1", 0);
        condition("siP < 1", 0);
    }

    /** "between all there may be blanks (32), also ahead and behind" */
    private static void blanksBetweenAll() {
        right("  bind  1  if  (  not  wed  or  sip  +  1  <  2  )  ;  last  1  ", 2);
        right("bind 1 if(1+2<3+sip)", 1);
        right(" ".repeat(394) + "bind 1", 1);
        for (int other : new int[] {0, 9, 10, 13, 31, 33, 160}) {
            wrong("bind" + (char) other + "1", 4);
        }
        wrong("bi nd 1", 0);
        condition("1 0 < 2", 2);
    }

    /** "or the text's length, if more must come" */
    private static void moreMustCome() {
        String[] begun = {"bind", "last", "suspect", "bind 1;", "bind 1 if", "bind 1 if not", "bind 1 if (", "bind 1 if (wed",
            "bind 1 if 5", "bind 1 if 5 +", "bind 1 if 5 <", "bind 1 if 5 > 5 +", "bind 1 if wed and", "bind 1 if wed or",
            "bind 1 if (wed or (bound)", "bind 1 if not (1 < 2"};
        for (String text : begun) {
            wrong(text, text.length());
            wrong(text + "   ", text.length() + 3);
        }
    }

    /** "the begin of the first thing that cannot stand there" */
    private static void whatCannotStandThere() {
        wrong("1", 0);
        wrong("bind wed", 5);
        wrong("bind 1 1", 7);
        wrong("bind 1 bind 1", 7);
        wrong("bind 1 and wed", 7);
        wrong("bind 1 if if", 10);
        condition("and", 0);
        condition("wed not bound", 4);
        condition("wed wed", 4);
        condition("wed + 1 < 2", 4);
        condition("wed)", 3);
        condition("(wed))", 5);
        condition("()", 1);
        condition("(wed and)", 8);
        condition("(1)", 2);
        condition("(1 < 2) < 3", 8);
        condition("1 < 2 < 3", 6);
        condition("1 < 2 3", 6);
        condition("1 = 1", 2);
        condition("1 <> 1", 3);
        condition("1 < < 1", 4);
        condition("1 + + 1", 4);
        condition("1 < bound", 4);
        condition("1 < (1)", 4);
        condition("not 5", 5);
        condition("room < 1", 0);
    }

    /** "THE LAW (a text, in place of the one before)" */
    private static void inPlaceOfTheOneBefore() {
        SharedCup x = two();
        CHECK.is("the first", Check.law(x, "bind 1;last 10;suspect 20"), 3);
        CHECK.is("the second", Check.law(x, "last 1"), 1);
        CHECK.is("BINDS", x.told(0, 1, 0, 2, 0), 5);
        CHECK.is("LASTS", x.told(0, 1, 0, 2, 1), 101);
        CHECK.is("SUSPECTS", x.told(0, 1, 0, 2, 2), 0);
        CHECK.is("one of nothing", Check.law(x, ""), 0);
        CHECK.is("LASTS then", x.told(0, 1, 0, 2, 1), 100);
        for (int text = 0; text < 20; text++) {
            CHECK.is("as many as one likes", Check.law(x, "bind 1"), 1);
        }
        CHECK.is("they are no texts of THE HOUSE", x.count(1), 1);
    }

    /** "Of a wrong text nothing stays." */
    private static void ofAWrongLawNothingStays() {
        SharedCup x = two();
        Check.law(x, "bind 2 if not wed;last 3 if 1 < 2;suspect 4 if (many < 1)");
        x.go(0, 3);
        String before = Check.all(x);
        CHECK.argument("wrong in its last LINE", () -> Check.law(x, "bind 4;last 9;suspect 9;last"));
        CHECK.argument("wrong behind a condition", () -> Check.law(x, "bind 1 if ((wed)) or 1 > 2 and x"));
        CHECK.argument("of a LINE too many", () -> Check.law(x, Check.times("last 1", 13, ";")));
        CHECK.same("all is as it was", Check.all(x), before);
        CHECK.yes("the act is remembered", x.undo());
    }

    /** "Of a wrong text nothing stays", nor on the DAYS behind it. */
    private static void daysKeepToTheLawThatIsRight() {
        SharedCup x = Check.of(Check.people(2), "flour a;bond 0 1 1 till 99");
        Check.law(x, "suspect 4");
        CHECK.argument("a wrong one", () -> Check.law(x, "suspect 50;x"));
        CHECK.is("ahead", x.ahead(0, 1, true), 4);
        CHECK.is("trial", x.trial(1, true), 8);
        CHECK.is("days", x.days(1), 1);
        CHECK.is("SUSPECTED", x.person(0, 2), 4);
        SharedCup y = Check.of(Check.people(2), "flour a;bond 0 1 1 till 99");
        CHECK.argument("a wrong one alone", () -> Check.law(y, "suspect 50;x"));
        CHECK.is("days without a law", y.days(1), 1);
        CHECK.is("SUSPECTED by 5", y.person(0, 2), 5);
    }

    private static void imageIsOfTheLawThatIsRight() {
        SharedCup x = Check.of(Check.people(2), "flour a;bond 0 1 1 till 99");
        Check.law(x, "suspect 4");
        CHECK.argument("a wrong one", () -> Check.law(x, "suspect 50;x"));
        x.image();
        Check.law(x, "suspect 9;bind 1");
        CHECK.is("ahead by the later law", x.ahead(0, 1, true), 9);
        CHECK.is("trial by the later law", x.trial(1, true), 18);
        x.days(1);
        CHECK.is("days by the later law", x.person(0, 2), 9);
        CHECK.yes("back()", x.back());
        CHECK.is("LINES of the image", x.count(2), 1);
        CHECK.is("told by the law of the image", x.told(0, 1, 0, 2, 2), 4);
        CHECK.is("trial by the law of the image", x.trial(1, true), 8);
    }

    /** A text of 400 bytes is read to its last one. */
    private static void fullTape() {
        SharedCup x = two();
        String ones = "0" + Check.times("1", 192, "+");
        CHECK.is("its length", ("last 9 if 193 > " + ones).length(), 400);
        Check.law(x, "last 9 if 193 > " + ones);
        CHECK.is("193 is above 192", x.told(0, 1, 0, 2, 1), 109);
        Check.law(x, "last 9 if 192 > " + ones);
        CHECK.is("192 is not", x.told(0, 1, 0, 2, 1), 100);
        Check.law(x, "last 9 if 200 > " + ones.substring(0, 383) + "9");
        CHECK.is("200 is not above 191 and 9", x.told(0, 1, 0, 2, 1), 100);
        wrong("last 9 if 193 > " + ones.substring(0, 383) + "x", 399);
        wrong("last 9 if 193 > " + ones.substring(0, 382) + " +", 400);
    }

    /** The deepest condition that there may be, with a part open on every level. */
    private static void deepestAndLongest() {
        SharedCup x = two();
        String open = "wed or 0<1 and (".repeat(6) + "1>2 or 1<2 and 3+4+5<13" + ")".repeat(6);
        CHECK.yes("it holds", holds(x, open, 0, 2));
        String shut = "wed or 0<1 and (".repeat(6) + "1>2 or 1<2 and 3+4+5<12" + ")".repeat(6);
        CHECK.no("it does not", holds(x, shut, 0, 2));
        String ands = "1<2" + " and 1<2".repeat(45);
        CHECK.yes("many in a row", holds(x, ands, 0, 2));
        String ors = "2<1" + " or 2<1".repeat(50);
        CHECK.no("none of many", holds(x, ors, 0, 2));
        CHECK.yes("the last of many", holds(x, "2<1" + " or 2<1".repeat(49) + " or 1<2", 0, 2));
    }

    /** "BINDS them by: BINDS and the sum of N of all bind LINES that hold (9 at most)" */
    private static void bindsNineAtMost() {
        SharedCup x = two();
        Check.law(x, "bind 3");
        CHECK.is("5 and 3", x.told(0, 1, 0, 2, 0), 8);
        Check.law(x, "bind 2;bind 2");
        CHECK.is("5 and 4", x.told(0, 1, 0, 2, 0), 9);
        Check.law(x, "bind 2;bind 3");
        CHECK.is("5 and 5", x.told(0, 1, 0, 2, 0), 9);
        Check.law(x, Check.times("bind 99", 12, ";"));
        CHECK.is("5 and 1188", x.told(0, 1, 0, 2, 0), 9);
        Check.law(x, "bind 4 if wed;bind 1");
        CHECK.is("those that hold alone", x.told(0, 1, 0, 2, 0), 6);
        Check.house(x, "binds 9");
        CHECK.is("9 and 1", x.told(0, 1, 0, 2, 0), 9);
        Check.house(x, "binds 1");
        Check.law(x, "");
        CHECK.is("1 alone", x.told(0, 1, 0, 2, 0), 1);
    }

    /** "LASTS for them: LASTS and the sum of N of all last LINES" */
    private static void lastsWithoutABound() {
        SharedCup x = two();
        Check.house(x, "lasts 400");
        Check.law(x, Check.times("last 99", 12, ";"));
        CHECK.is("400 and 1188", x.told(0, 1, 0, 2, 1), 1588);
        Check.law(x, "last 99 if wed;last 1 if not wed");
        CHECK.is("those that hold alone", x.told(0, 1, 0, 2, 1), 401);
        Check.house(x, "lasts 1");
        Check.law(x, "last 0");
        CHECK.is("1 and 0", x.told(0, 1, 0, 2, 1), 1);
    }

    /** "SUSPECTS them by: the sum of N of all suspect LINES, 5 without a text" */
    private static void suspectsWithoutAText() {
        SharedCup x = two();
        CHECK.is("without a text", x.told(0, 1, 0, 2, 2), 5);
        Check.law(x, "");
        CHECK.is("with one that has no LINE", x.told(0, 1, 0, 2, 2), 0);
        Check.law(x, "bind 1");
        CHECK.is("with one that has no such LINE", x.told(0, 1, 0, 2, 2), 0);
        Check.law(x, Check.times("suspect 99", 12, ";"));
        CHECK.is("1188", x.told(0, 1, 0, 2, 2), 1188);
        Check.law(x, "suspect 7 if wed;suspect 3 if not wed");
        CHECK.is("those that hold alone", x.told(0, 1, 0, 2, 2), 3);
        SharedCup y = two();
        CHECK.argument("a wrong text", () -> Check.law(y, "suspect"));
        CHECK.is("is none", y.told(0, 1, 0, 2, 2), 5);
    }

    /** "(sip, many are 0 there)" */
    private static void sipAndManyAreNoughtThere() {
        SharedCup x = two();
        Check.law(x, "suspect 1 if sip < 1;suspect 2 if many < 1;suspect 4 if sip + many > 0");
        for (int sip = 0; sip <= 3; sip++) {
            CHECK.is("with a SIP " + sip, x.told(0, 1, sip, 8, 2), 3);
        }
        Check.house(x, "flour a;bond 0 1 1 till 9");
        CHECK.is("on a DAY", x.days(1), 1);
        CHECK.is("SUSPECTED", x.person(0, 2), 3);
        Check.law(x, "suspect 1 if sip + 1 > 0;suspect 2 if 1 + many > 0");
        CHECK.is("no less than 0", x.told(0, 1, 3, 8, 2), 3);
    }

    /** "Of two (one: the lesser number, other: the greater one)" */
    private static void oneIsTheLesser() {
        SharedCup x = Check.of(Check.people(8));
        Check.law(x, "last 1 if one < 1;last 2 if other > 6;last 4 if one > other;last 8 if one > 5");
        CHECK.is("0 and 7", x.told(0, 7, 0, 2, 1), 103);
        CHECK.is("7 and 0", x.told(7, 0, 0, 2, 1), 103);
        CHECK.is("6 and 7", x.told(7, 6, 0, 2, 1), 110);
        CHECK.is("0 and 1", x.told(1, 0, 0, 2, 1), 101);
        CHECK.is("5 and 6", x.told(5, 6, 0, 2, 1), 100);
    }

    private static void bindLinesAskOfBoth() {
        SharedCup x = Check.of(Check.people(3), "binds 1;wed 0 2;bond 1 2 1 till 9;likes 0 050");
        Check.law(x, "bind 1 if other > 1;bind 2 if wed;bind 3 if bound;bind 4 if liking > 4");
        CHECK.is("0 and 1: liking", x.told(0, 1, 0, 2, 0), 5);
        CHECK.is("1 and 0: liking", x.told(1, 0, 0, 2, 0), 5);
        CHECK.is("0 and 2: other, wed", x.told(0, 2, 0, 2, 0), 4);
        CHECK.is("2 and 0: other, wed", x.told(2, 0, 0, 2, 0), 4);
        CHECK.is("1 and 2: other, bound", x.told(1, 2, 0, 2, 0), 5);
        CHECK.is("2 and 1: other, bound", x.told(2, 1, 0, 2, 0), 5);
    }

    /** "SUM < SUM | SUM > SUM" */
    private static void belowAndAbove() {
        SharedCup x = two();
        for (int sip = 0; sip <= 3; sip++) {
            for (int n = 0; n <= 4; n++) {
                CHECK.same(sip + " < " + n, holds(x, "sip < " + n, sip, 2), sip < n);
                CHECK.same(sip + " > " + n, holds(x, "sip > " + n, sip, 2), sip > n);
            }
        }
        for (int many = 2; many <= 8; many++) {
            CHECK.yes("many is " + many, holds(x, "many > " + (many - 1) + " and many < " + (many + 1), 0, many));
            CHECK.no("many is not above " + many, holds(x, "many > " + many + " or many < " + many, 0, many));
        }
        CHECK.yes("one and other", holds(x, "one < 1 and other > 0 and other < 2", 0, 2));
    }

    /** "wed: they are WED to each other; bound: a BOND of both holds" */
    private static void wedAndBound() {
        SharedCup x = Check.of(Check.people(4), "wed 0 2;wed 1 3;bond 0 1 1 till 5;bond 2 3 9 till 4;day 4");
        Check.law(x, "last 1 if wed;last 2 if bound");
        CHECK.is("both WED, but not to each other; bound", x.told(0, 1, 0, 2, 1), 102);
        CHECK.is("WED", x.told(2, 0, 0, 2, 1), 101);
        CHECK.is("a BOND that does not hold at its TILL", x.told(2, 3, 0, 2, 1), 100);
        x.days(1);
        CHECK.is("nor the other one then", x.told(0, 1, 0, 2, 1), 100);
    }

    /** Both are facts as any comparison is: with not, and, or. */
    private static void wedAndBoundAmongOthers() {
        SharedCup x = Check.of(Check.people(2), "wed 0 1;bond 0 1 1 till 9");
        for (String fact : new String[] {"wed", "bound"}) {
            CHECK.yes(fact, holds(x, fact, 0, 2));
            CHECK.no("not " + fact, holds(x, "not " + fact, 0, 2));
            CHECK.yes("not not " + fact, holds(x, "not not " + fact, 0, 2));
            CHECK.yes(fact + " and a comparison", holds(x, fact + " and 1 < 2", 0, 2));
            CHECK.yes("a comparison and " + fact, holds(x, "1 < 2 and " + fact, 0, 2));
            CHECK.no(fact + " and another", holds(x, fact + " and 2 < 1", 0, 2));
            CHECK.yes("another or " + fact, holds(x, "2 < 1 or " + fact, 0, 2));
        }
        CHECK.yes("wed and bound", holds(x, "wed and bound", 0, 2));
        SharedCup y = two();
        CHECK.no("neither", holds(y, "wed or bound", 0, 2));
        CHECK.yes("not (neither)", holds(y, "not (wed or bound)", 0, 2));
    }

    /** Each kind of LINE asks of the two, the SIP and so many that it is told of, whatever was asked before. */
    private static void eachKindAsksAnew() {
        SharedCup x = Check.of(Check.people(3), "binds 1;lasts 1");
        Check.law(x, "bind 1 if one < 1;bind 2 if sip > 2;bind 4 if many > 7;last 1 if one < 1;last 2 if sip > 2;last 4 if many > 7"
            + ";suspect 1 if one < 1;suspect 2 if other > 1");
        int[][] asked = {{0, 1, 0, 2}, {1, 2, 0, 2}, {1, 2, 3, 2}, {2, 0, 0, 8}, {1, 2, 0, 8}, {0, 1, 3, 8}, {2, 1, 0, 2}};
        int[] due = {2, 1, 3, 6, 5, 8, 1};
        int[] suspects = {1, 2, 2, 3, 2, 1, 2};
        for (int k = 0; k < asked.length; k++) {
            int[] a = asked[k];
            CHECK.is("BINDS " + k, x.told(a[0], a[1], a[2], a[3], 0), due[k]);
        }
        for (int k = 0; k < asked.length; k++) {
            int[] a = asked[k];
            CHECK.is("LASTS " + k, x.told(a[0], a[1], a[2], a[3], 1), due[k]);
        }
        for (int k = 0; k < asked.length; k++) {
            int[] a = asked[k];
            CHECK.is("SUSPECTS " + k, x.told(a[0], a[1], a[2], a[3], 2), suspects[k]);
        }
    }

    /** "liking: that of both for one another, together" */
    private static void likingOfBoth() {
        SharedCup x = two();
        CHECK.yes("0 at first", holds(x, "liking < 1", 0, 2));
        Check.house(x, "likes 0 09;likes 1 90");
        CHECK.yes("18 at most", holds(x, "liking > 17 and liking < 19", 0, 2));
        Check.house(x, "likes 0 00");
        CHECK.yes("9 of one alone", holds(x, "liking > 8 and liking < 10", 0, 2));
    }

    private static void dayToTheLast() {
        SharedCup x = two();
        CHECK.yes("0", holds(x, "day < 1", 0, 2));
        Check.house(x, "day 999");
        CHECK.yes("999", holds(x, "day > 998 and not day > 999", 0, 2));
        SharedCup y = Check.onLastDay(Check.people(2));
        String nines = Check.times("999", 10, "+");
        CHECK.yes("9999 is above ten times 999 and 8", holds(y, "day > " + nines + " + 8", 0, 2));
        CHECK.no("9999 is not above ten times 999 and 9", holds(y, "day > " + nines + " + 9", 0, 2));
    }

    /** "C: ALL { or ALL }; ALL: ATOM { and ATOM }" */
    private static void andBeforeOr() {
        SharedCup x = two();
        String[] truth = {"2 < 1", "1 < 2"};
        for (int bits = 0; bits < 16; bits++) {
            boolean a = (bits & 1) != 0;
            boolean b = (bits & 2) != 0;
            boolean c = (bits & 4) != 0;
            boolean d = (bits & 8) != 0;
            String p = truth[bits & 1];
            String q = truth[bits >> 1 & 1];
            String r = truth[bits >> 2 & 1];
            String s = truth[bits >> 3 & 1];
            CHECK.same("or and or " + bits, holds(x, p + " or " + q + " and " + r + " or " + s, 0, 2), a || b && c || d);
            CHECK.same("and or and " + bits, holds(x, p + " and " + q + " or " + r + " and " + s, 0, 2), a && b || c && d);
            CHECK.same("not and " + bits, holds(x, "not " + p + " and " + q + " or not " + r, 0, 2), !a && b || !c);
            CHECK.same("not ( ) " + bits, holds(x, "not (" + p + " or " + q + ") and (" + r + " or " + s + ")", 0, 2),
                !(a || b) && (c || d));
        }
    }

    /** "IllegalArgumentException: both are one, or a number is none (SIP 0 to 3, 2 to 8)" */
    private static void toldNumbers() {
        SharedCup x = two();
        for (int what = 0; what < 3; what++) {
            int asked = what;
            int due = new int[] {5, 100, 5}[what];
            CHECK.is("SIP 0 of 2", x.told(0, 1, 0, 2, what), due);
            CHECK.is("SIP 3 of 8, of whom there are but two", x.told(0, 1, 3, 8, what), due);
            for (int none : new int[] {-1, 4, Integer.MIN_VALUE, Integer.MAX_VALUE}) {
                CHECK.argument("SIP " + none, () -> x.told(0, 1, none, 2, asked));
            }
            for (int none : new int[] {1, 0, -1, 9, Integer.MIN_VALUE, Integer.MAX_VALUE}) {
                CHECK.argument("so many: " + none, () -> x.told(0, 1, 0, none, asked));
            }
            CHECK.argument("both are one", () -> x.told(1, 1, 0, 2, asked));
        }
    }

    /** "NoSuchElementException: another what" */
    private static void toldWhat() {
        SharedCup x = two();
        for (int none : new int[] {-1, 3, Integer.MIN_VALUE, Integer.MAX_VALUE}) {
            CHECK.element("what " + none, () -> x.told(0, 1, 0, 2, none));
        }
    }

    /** "Of several exceptions the one told first is thrown" */
    private static void toldThrowsTheFirst() {
        SharedCup x = two();
        for (int none : new int[] {-1, 2, Integer.MIN_VALUE, Integer.MAX_VALUE}) {
            CHECK.index("PERSON " + none, () -> x.told(none, 0, 0, 2, 0));
            CHECK.index("other " + none, () -> x.told(0, none, 0, 2, 0));
            CHECK.index("both " + none, () -> x.told(none, none, 4, 1, 3));
        }
        CHECK.argument("both are one, and no such what", () -> x.told(0, 0, 0, 2, 3));
        CHECK.argument("no such SIP, and no such what", () -> x.told(0, 1, 4, 2, 3));
        CHECK.argument("not so many, and no such what", () -> x.told(0, 1, 0, 1, 3));
    }
}

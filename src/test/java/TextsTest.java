/** Promises 4, 5, 6 and 10: texts of THE HOUSE, THE LAW, their first wrong byte, and what THE LAW tells. */
public final class TextsTest {
    private static final Check CHECK = new Check();

    public static void main(String[] args) {
        houseLines();
        wrongHouses();
        houseLimits();
        wrongLaws();
        lawLimits();
        lawAnswers();
        toldWrongly();
        CHECK.close();
    }

    private static void houseLines() {
        SharedCup x = Check.of("person at 0;person at 005 ; person at2;likes0 123; likes 2 9 ".replace("9 ", "870"),
            "flour fa;binds9;lasts 400;wed 2 0;bond 1 2 7 till 999;day 998");
        CHECK.is("PEOPLE", x.count(0), 3);
        CHECK.is("texts", x.count(1), 2);
        CHECK.is("ROOM of 1", x.person(1, 0), 5);
        CHECK.is("ROOM of 2", x.person(2, 0), 2);
        CHECK.is("liking(0, 1)", x.liking(0, 1), 2);
        CHECK.is("liking(0, 2)", x.liking(0, 2), 3);
        CHECK.is("liking(2, 0)", x.liking(2, 0), 8);
        CHECK.is("liking(2, 1)", x.liking(2, 1), 7);
        CHECK.is("liking(1, 0)", x.liking(1, 0), 0);
        CHECK.is("FLOUR", x.count(4), 33);
        CHECK.is("BINDS", x.count(5), 9);
        CHECK.is("LASTS", x.count(6), 400);
        CHECK.is("WED", x.person(0, 1), 2);
        CHECK.is("WED the other way", x.person(2, 1), 0);
        CHECK.is("BOND", x.bond(2, 1, false), 7);
        CHECK.is("TILL", x.bond(1, 2, true), 999);
        CHECK.is("DAY", x.count(3), 998);
        CHECK.is("FLOUR in place of that before", Check.house(x, "flour c;day 999"), 3);
        CHECK.is("FLOUR then", x.count(4), 4);
        CHECK.is("the BOND does not hold at its TILL", x.bond(1, 2, false), 0);
        CHECK.is("nor has it a TILL", x.bond(1, 2, true), -1);
        Check.house(x, "day 998");
        CHECK.is("it holds again on a DAY before", x.bond(1, 2, false), 7);
        Check.house(x, "bond 2 1 3 till 2;day 1");
        CHECK.is("a BOND in place of that before", x.bond(1, 2, false), 3);
        CHECK.is("with its TILL", x.bond(1, 2, true), 2);
        Check.house(x, "person at 1;likes 1 1234");
        CHECK.is("a text behind another", x.liking(1, 3), 4);
        CHECK.is("a new one likes nobody", x.liking(3, 0), 0);
        CHECK.is("a new one is WED to none", x.person(3, 1), -1);
    }

    private static void wrongHouse(String text, int at) {
        SharedCup x = Check.of("person at 1;person at 2;bond 0 1 4 till 9");
        CHECK.argument("house \"" + text + "\"", () -> Check.house(x, text));
        CHECK.is("fault of \"" + text + "\"", x.fault(), at);
        CHECK.is("PEOPLE behind \"" + text + "\"", x.count(0), 2);
        CHECK.is("texts behind \"" + text + "\"", x.count(1), 1);
        CHECK.is("the tape behind \"" + text + "\"", x.feed(0, 0, 0, 0, 0), 20);
    }

    private static void wrongHouses() {
        wrongHouse(";", 0);
        wrongHouse("  ;", 2);
        wrongHouse("7", 0);
        wrongHouse("Person at 1", 0);
        wrongHouse("persons at 1", 0);
        wrongHouse("personat 1", 0);
        wrongHouse("person  ", 8);
        wrongHouse("person 1", 7);
        wrongHouse("person att 1", 7);
        wrongHouse("person at", 9);
        wrongHouse("person at 6", 10);
        wrongHouse("person at 0001", 10);
        wrongHouse("person at a", 10);
        wrongHouse("person at 1 1", 12);
        wrongHouse("person at 1 person at 1", 12);
        wrongHouse("person at 1; ", 13);
        wrongHouse("person at 1;;", 12);
        wrongHouse("person at 1\n", 11);
        wrongHouse("likes", 5);
        wrongHouse("likes 2 00", 6);
        wrongHouse("likes 0", 7);
        wrongHouse("likes 0 0", 8);
        wrongHouse("likes 0 000", 8);
        wrongHouse("likes 0 ab", 8);
        wrongHouse("likes 0 0a", 8);
        wrongHouse("likes 000", 9);
        wrongHouse("likes 0 1 2", 8);
        wrongHouse("person at 0;likes 0 00", 20);
        wrongHouse("wed 0", 5);
        wrongHouse("wed 0 0", 6);
        wrongHouse("wed 0 2", 6);
        wrongHouse("wed 2 0", 4);
        wrongHouse("wed 0 1;wed 0 1", 12);
        wrongHouse("person at 0;wed 0 1;wed 2 1", 26);
        wrongHouse("person at 0;wed 0 1;wed 1", 24);
        wrongHouse("flour ", 6);
        wrongHouse("flour ;", 6);
        wrongHouse("flour 1", 6);
        wrongHouse("flour abg", 6);
        wrongHouse("flour abcdefa", 6);
        wrongHouse("flour ab c", 9);
        wrongHouse("flour a;flour", 13);
        wrongHouse("binds", 5);
        wrongHouse("binds 0", 6);
        wrongHouse("binds 10", 6);
        wrongHouse("binds 0009", 6);
        wrongHouse("lasts 0", 6);
        wrongHouse("lasts 401", 6);
        wrongHouse("day", 3);
        wrongHouse("dayz 1", 0);
        wrongHouse("flour az", 6);
        wrongHouse("day1:", 4);
        wrongHouse("day 1/", 5);
        wrongHouse("day`1", 3);
        wrongHouse("day{1", 3);
        wrongHouse("day 1000", 4);
        wrongHouse("day -1", 4);
        wrongHouse("bond 0 1", 8);
        wrongHouse("bond 0 0 1 till 1", 7);
        wrongHouse("bond 0 2 1 till 1", 7);
        wrongHouse("bond 2 0 1 till 1", 5);
        wrongHouse("bond 0 1 0 till 1", 9);
        wrongHouse("bond 0 1 10 till 1", 9);
        wrongHouse("bond 0 1 9", 10);
        wrongHouse("bond 0 1 9 til 1", 11);
        wrongHouse("bond 0 1 9 till", 15);
        wrongHouse("bond 0 1 9 till 0", 16);
        wrongHouse("bond 0 1 9 till 1000", 16);
        wrongHouse("bond 01 9 till 1", 8);
    }

    private static void houseLimits() {
        wrongHouse(Check.times("person at 0", 7, ";"), 6 * 12);
        wrongHouse(Check.times("person at 0", 6, ";") + "; person", 6 * 12 + 1);
        wrongHouse(Check.times("day 1", 15, ";"), 84);
        wrongHouse(Check.times("day 1", 14, ";") + ";", 84);
        wrongHouse(Check.times("day 1", 14, ";") + "; ; ", 85);
        wrongHouse(Check.times("day 1", 14, ";") + "; cup", 85);
        SharedCup x = Check.of(Check.times("day 1", 14, ";"), Check.times("person at 0", 8, ";"));
        CHECK.is("eight PEOPLE", x.count(0), 8);
        x.go(0, 1);
        for (int text = 3; text <= 12; text++) {
            CHECK.is("text " + text, Check.house(x, text % 2 == 0 ? "" : "   "), text);
        }
        x.go(0, 2);
        CHECK.argument("a wrong 13th", () -> Check.house(x, "person at 0"));
        CHECK.is("its fault", x.fault(), 0);
        CHECK.throwsA(UnsupportedOperationException.class, "a right 13th", () -> Check.house(x, "day 7"));
        CHECK.is("it was read, and is right", x.fault(), -1);
        CHECK.is("nothing stays of it", x.count(3), 1);
        CHECK.is("it is none", x.count(1), 12);
        CHECK.is("the tape is used up", x.feed(0, 0, 0, 0, 0), 20);
        CHECK.is("acts stay remembered", x.count(12), 1);
        CHECK.is("THE LAW may still come", Check.law(x, "bind 1"), 1);
        CHECK.is("acts are forgotten with it", x.count(12), 0);
    }

    private static void wrongLaw(String text, int at) {
        SharedCup x = Check.of("person at 1;person at 2");
        Check.law(x, "bind 3;suspect 8");
        CHECK.argument("law \"" + text + "\"", () -> Check.law(x, text));
        CHECK.is("fault of \"" + text + "\"", x.fault(), at);
        CHECK.is("LINES behind \"" + text + "\"", x.count(2), 2);
        CHECK.is("BINDS behind \"" + text + "\"", x.told(0, 1, 0, 2, 0), 8);
        CHECK.is("SUSPECTS behind \"" + text + "\"", x.told(0, 1, 0, 2, 2), 8);
        CHECK.is("the tape behind \"" + text + "\"", x.feed(0, 0, 0, 0, 0), 20);
    }

    private static void wrongLaws() {
        wrongLaw(";", 0);
        wrongLaw("binds 1", 0);
        wrongLaw("bind", 4);
        wrongLaw("bind 100", 5);
        wrongLaw("bind 0001", 5);
        wrongLaw("bind one", 5);
        wrongLaw("last 5 wed", 7);
        wrongLaw("last 5 iff wed", 7);
        wrongLaw("last 5 if ", 10);
        wrongLaw("last 5 if;", 9);
        wrongLaw("last 5;;", 7);
        wrongLaw("last 5; ", 8);
        wrongLaw("suspect 5 if wedd", 13);
        wrongLaw("suspect 5 if wed wed", 17);
        wrongLaw("suspect 5 if wed and", 20);
        wrongLaw("suspect 5 if wed or ;", 20);
        wrongLaw("suspect 5 if wed)", 16);
        wrongLaw("suspect 5 if wed < 3", 17);
        wrongLaw("bind 1 if (wed;", 14);
        wrongLaw("bind 1 if ()", 11);
        wrongLaw("bind 1 if not", 13);
        wrongLaw("bind 1 if sip", 13);
        wrongLaw("bind 1 if sip = 1", 14);
        wrongLaw("bind 1 if sip <", 15);
        wrongLaw("bind 1 if sip < wed", 16);
        wrongLaw("bind 1 if sip < (1)", 16);
        wrongLaw("bind 1 if (sip) < 1", 14);
        wrongLaw("bind 1 if sip < 1 < 2", 18);
        wrongLaw("bind 1 if sip + < 2", 16);
        wrongLaw("bind 1 if sip + + 2", 16);
        wrongLaw("bind 1 if sip 2 < 2", 14);
        wrongLaw("bind 1 if 1000 < 2", 10);
        wrongLaw("bind 1 if 1 < 1000", 14);
        wrongLaw("bind 1 if 1 < 2 + 0001", 18);
        wrongLaw("bind 1 if sipp > 2", 10);
        wrongLaw("bind 1 if Sip > 2", 10);
        wrongLaw("bind 1 if wed; bind 1 if", 24);
        wrongLaw("day 1", 0);
    }

    private static void lawLimits() {
        wrongLaw(Check.times("bind 5", 13, ";"), 84);
        wrongLaw(Check.times("bind 5", 12, ";") + " ; ", 86);
        wrongLaw(Check.times("bind 5", 12, ";") + " ; last", 86);
        wrongLaw("bind 1 if ((((((( wed", 16);
        wrongLaw("bind 1 if not(not(not(not wed", 22);
        wrongLaw("bind 1 if (not (not (not (wed))))", 25);
        wrongLaw("bind 1 if not not not not not not ( wed )", 34);
        SharedCup x = Check.of("person at 0;person at 0");
        CHECK.is("six deep", Check.law(x, "bind 1 if ((((((wed or bound))))))"), 1);
        CHECK.is("six deep, twice", Check.law(x, "bind 1 if not(not(not wed))and((not((not bound))))"), 1);
        CHECK.is("twelve", Check.law(x, Check.times("last 99", 12, ";")), 12);
        CHECK.is("LASTS by all of them", x.told(0, 1, 0, 2, 1), 100 + 12 * 99);
        CHECK.is("without a LINE", Check.law(x, "  "), 0);
        CHECK.is("count(2)", x.count(2), 0);
        CHECK.is("SUSPECTS by none", x.told(0, 1, 0, 2, 2), 0);
        CHECK.is("LASTS by none", x.told(0, 1, 0, 2, 1), 100);
        String sums = "bind 1 if " + Check.times("1", 190, "+") + "<190";
        CHECK.is("a long sum", Check.law(x, sums), 1);
        CHECK.is("is not below itself", x.told(0, 1, 0, 2, 0), 5);
    }

    private static void holds(SharedCup x, String condition, boolean due) {
        Check.law(x, "last 7 if " + condition);
        CHECK.is(condition, x.told(1, 2, 2, 5, 1), due ? 107 : 100);
        CHECK.is(condition + ", turned", x.told(2, 1, 2, 5, 1), due ? 107 : 100);
    }

    private static void lawAnswers() {
        SharedCup x = Check.of("person at 0;person at 1;person at 2;likes 1 304;likes 2 560;wed 1 0;bond 1 2 3 till 20;day 19");
        holds(x, "one > 0", true);
        holds(x, "one > 1", false);
        holds(x, "other > 1", true);
        holds(x, "other < 2", false);
        holds(x, "one < other", true);
        holds(x, "sip > 1", true);
        holds(x, "sip < 2", false);
        holds(x, "many > 4", true);
        holds(x, "many < 5", false);
        holds(x, "liking > 9", true);
        holds(x, "liking < 10", false);
        holds(x, "liking > 10", false);
        holds(x, "day > 18", true);
        holds(x, "day < 19", false);
        holds(x, "wed", false);
        holds(x, "not wed", true);
        holds(x, "bound", true);
        holds(x, "not not bound", true);
        holds(x, "bound and wed", false);
        holds(x, "bound or wed", true);
        holds(x, "bound or wed and wed", true);
        holds(x, "wed and wed or bound", true);
        holds(x, "(bound or wed) and wed", false);
        holds(x, "not wed and wed", false);
        holds(x, "not (wed and wed)", true);
        holds(x, "not wed or bound", true);
        holds(x, "not (bound or wed)", false);
        holds(x, "one + other + sip + many + liking + day > 38", true);
        holds(x, "39 > one + other + sip + many + liking + day", false);
        holds(x, "40>one+other+sip+many+liking+day", true);
        holds(x, "999+1<999+1", false);
        holds(x, "999<999+1", true);
        Check.house(x, "day 20");
        holds(x, "bound", false);
        holds(x, "day > 19", true);
        Check.law(x, "bind 2;bind 1 if wed;bind 50 if day < 3;last 30 if sip > 0;suspect 12;suspect 30 if wed;suspect 1 if many + sip < 1");
        CHECK.is("BINDS 1 and 2", x.told(1, 2, 0, 2, 0), 7);
        CHECK.is("BINDS the WED", x.told(0, 1, 0, 2, 0), 8);
        CHECK.is("LASTS without a SIP", x.told(0, 1, 0, 2, 1), 100);
        CHECK.is("LASTS with one", x.told(0, 1, 3, 2, 1), 130);
        CHECK.is("SUSPECTS, where SIP and so many are 0", x.told(1, 2, 3, 8, 2), 13);
        CHECK.is("SUSPECTS the WED, too", x.told(1, 0, 3, 8, 2), 43);
        Check.house(x, "day 2");
        CHECK.is("9 at most", x.told(1, 2, 0, 2, 0), 9);
        CHECK.is("a SIP does not halve what THE LAW tells", x.told(1, 2, 1, 2, 0), 9);
    }

    private static void toldWrongly() {
        SharedCup x = Check.of("person at 0;person at 1");
        CHECK.is("without THE LAW", x.told(0, 1, 0, 2, 2), 5);
        CHECK.index("told(2, 0)", () -> x.told(2, 0, 0, 2, 0));
        CHECK.index("told(0, -1)", () -> x.told(0, -1, 9, 9, 9));
        CHECK.index("told(2, 2)", () -> x.told(2, 2, 0, 2, 0));
        CHECK.argument("told(1, 1)", () -> x.told(1, 1, 0, 2, 9));
        CHECK.argument("told sip 4", () -> x.told(0, 1, 4, 2, 0));
        CHECK.argument("told sip -1", () -> x.told(0, 1, -1, 2, 9));
        CHECK.argument("told many 1", () -> x.told(0, 1, 0, 1, 9));
        CHECK.argument("told many 9", () -> x.told(0, 1, 0, 9, 0));
        CHECK.argument("told many 9, even where it is not asked", () -> x.told(0, 1, 0, 9, 2));
        CHECK.element("told what 3", () -> x.told(0, 1, 0, 2, 3));
        CHECK.element("told what -1", () -> x.told(0, 1, 3, 8, -1));
    }
}

/** Promises 7 to 9 and 11 to 17: what people are, and what is done to them. */
public final class ActsTest {
    private static final Check CHECK = new Check();

    public static void main(String[] args) {
        person();
        likingAndBond();
        share();
        shareAgain();
        shareByLaw();
        shareLate();
        wash();
        goAndStrew();
        wed();
        clear();
        days();
        CHECK.close();
    }

    private static void person() {
        SharedCup x = Check.of("person at 4;person at 1;person at 4;person at 0;person at 5;wed 1 3",
            "bond 0 1 3 till 9;bond 0 2 7 till 9;bond 0 3 7 till 9;bond 3 4 2 till 5",
            "likes 0 04521;likes 4 12310");
        CHECK.is("ROOM", x.person(0, 0), 4);
        CHECK.is("WED", x.person(3, 1), 1);
        CHECK.is("WED to none", x.person(0, 1), -1);
        CHECK.is("SUSPECTED", x.person(0, 2), 0);
        CHECK.is("MET", x.person(0, 3), 0);
        CHECK.is("BOUND", x.person(0, 4), 0b1110);
        CHECK.is("BOUND of 4", x.person(4, 4), 0b1000);
        CHECK.is("CIRCLE", x.person(1, 5), 0b11111);
        CHECK.is("MOST is the least of several", x.person(0, 7), 2);
        CHECK.is("MOST of 3", x.person(3, 7), 0);
        CHECK.is("GLADDER than by 2, whom 0 likes 5", x.person(0, 6), 0);
        CHECK.is("GLADDER than by 3, whom 4 likes 1", x.person(4, 6), 0b110);
        Check.house(x, "day 5");
        CHECK.is("CIRCLE without those who are free", x.person(4, 5), 0b10000);
        CHECK.is("MOST of none", x.person(4, 7), -1);
        CHECK.is("GLADDER than by nobody", x.person(4, 6), 0b1111);
        CHECK.is("CIRCLE still", x.person(2, 5), 0b1111);
        CHECK.element("person(0, 8)", () -> x.person(0, 8));
        CHECK.element("person(0, -1)", () -> x.person(0, -1));
        CHECK.index("person(5, 0)", () -> x.person(5, 0));
        CHECK.index("person(-1, 9)", () -> x.person(-1, 9));
    }

    private static void likingAndBond() {
        SharedCup x = Check.of("person at 0;person at 1;likes 1 90;bond 0 1 6 till 30");
        CHECK.is("liking(1, 0)", x.liking(1, 0), 9);
        CHECK.is("liking(0, 1)", x.liking(0, 1), 0);
        CHECK.is("bond(0, 1, false)", x.bond(0, 1, false), 6);
        CHECK.is("bond(1, 0, true)", x.bond(1, 0, true), 30);
        CHECK.index("liking(0, 2)", () -> x.liking(0, 2));
        CHECK.index("liking(2, 2)", () -> x.liking(2, 2));
        CHECK.argument("liking(1, 1)", () -> x.liking(1, 1));
        CHECK.index("bond(-1, 0)", () -> x.bond(-1, 0, true));
        CHECK.index("bond(-1, -1)", () -> x.bond(-1, -1, true));
        CHECK.argument("bond(0, 0)", () -> x.bond(0, 0, false));
        Check.house(x, "day 29");
        CHECK.is("the last DAY", x.bond(0, 1, false), 6);
        Check.house(x, "day 30");
        CHECK.is("the DAY of TILL", x.bond(0, 1, false), 0);
        CHECK.is("TILL then", x.bond(0, 1, true), -1);
    }

    private static void share() {
        SharedCup x = Check.of("person at 0;person at 0;person at 0;day 10");
        CHECK.is("share(7, 0)", x.share(7, 0), 3);
        CHECK.is("BOND", x.bond(1, 2, false), 5);
        CHECK.is("TILL", x.bond(1, 2, true), 110);
        Check.house(x, "binds 9");
        CHECK.is("SIP 1 is halved and rounded down: nothing greater", x.share(7, 1), 0);
        CHECK.is("SIP 2 is twice, 9 at most", x.share(6, 2), 1);
        CHECK.is("BOND 9", x.bond(1, 2, false), 9);
        CHECK.is("SIP 3 is nothing", x.share(7, 3), 0);
        CHECK.is("BOND of others", x.bond(0, 1, false), 5);
        SharedCup y = Check.of("person at 0;person at 0;binds 1");
        CHECK.is("half of 1 is nothing", y.share(3, 1), 0);
        CHECK.is("so there is no BOND", y.bond(0, 1, true), -1);
        CHECK.is("twice 1", y.share(3, 2), 1);
        CHECK.is("is 2", y.bond(0, 1, false), 2);
        Check.house(y, "binds 7");
        CHECK.is("half of 7", y.share(3, 1), 1);
        CHECK.is("is 3", y.bond(0, 1, false), 3);
        CHECK.is("bits of none count for nothing", y.share(-1, 0), 1);
        CHECK.argument("share(1, 0)", () -> y.share(1, 0));
        CHECK.argument("share(0, 0)", () -> y.share(0, 0));
        CHECK.argument("share(0b1101, 0): one that is", () -> y.share(0b1101, 0));
        CHECK.argument("share(3, 4)", () -> y.share(3, 4));
        CHECK.argument("share(3, -1)", () -> y.share(3, -1));
        CHECK.is("acts", y.count(12), 2);
    }

    private static void shareAgain() {
        SharedCup x = Check.of("person at 0;person at 0;lasts 20;bond 0 1 8 till 15");
        CHECK.is("a later TILL alone", x.share(3, 0), 1);
        CHECK.is("BOND stays the greater", x.bond(0, 1, false), 8);
        CHECK.is("TILL is later", x.bond(0, 1, true), 20);
        CHECK.is("nothing more", x.share(3, 0), 0);
        Check.house(x, "lasts 5;binds 9");
        CHECK.is("a greater BOND alone", x.share(3, 0), 1);
        CHECK.is("BOND is greater", x.bond(0, 1, false), 9);
        CHECK.is("TILL stays the later", x.bond(0, 1, true), 20);
        Check.house(x, "day 20;binds 2");
        CHECK.is("what does not hold counts 0", x.share(3, 0), 1);
        CHECK.is("BOND anew", x.bond(0, 1, false), 2);
        CHECK.is("TILL anew", x.bond(0, 1, true), 25);
        Check.house(x, "bond 0 1 9 till 900;day 900;binds 1");
        x.share(3, 0);
        CHECK.is("TILL is not that of a BOND that does not hold", x.bond(0, 1, true), 905);
    }

    private static void shareByLaw() {
        SharedCup x = Check.of("person at 0;person at 0;person at 0;person at 0;wed 0 3;likes 0 0500;likes 1 4000;binds 1");
        Check.law(x, "bind 3 if liking > 8;bind 2 if many > 2 and not wed;last 50 if one + other < 2;last 9 if sip > 1;bind 1 if bound");
        CHECK.is("share(0b1011, 0)", x.share(0b1011, 0), 3);
        CHECK.is("BOND of 0, 1", x.bond(0, 1, false), 6);
        CHECK.is("TILL of 0, 1", x.bond(0, 1, true), 150);
        CHECK.is("BOND of the WED", x.bond(0, 3, false), 1);
        CHECK.is("BOND of 1, 3", x.bond(1, 3, false), 3);
        CHECK.is("TILL of 1, 3", x.bond(1, 3, true), 100);
        CHECK.is("share of two with a SIP 2: once bound", x.share(0b1001, 2), 1);
        CHECK.is("BOND of the WED by 1 and 1, twice", x.bond(0, 3, false), 4);
        CHECK.is("TILL of the WED", x.bond(0, 3, true), 109);
    }

    private static void shareLate() {
        SharedCup x = Check.of("person at 0;person at 1;day 999;lasts 400");
        for (int k = 0; k < 150; k++) {
            x.days(60);
        }
        CHECK.is("DAY is 9999 at most", x.count(3), 9999);
        CHECK.is("would still be changed: from 0", x.would(3, 0), 1);
        CHECK.is("no CUP binds on the last DAY", x.share(3, 0), 1);
        CHECK.is("BOND does not hold", x.bond(0, 1, false), 0);
        CHECK.is("BONDS", x.count(9), 0);
        CHECK.is("free(9998)", x.free(9998), 0);
        CHECK.is("free(9999)", x.free(9999), 3);
        CHECK.is("widest(0, 2): none of them binds", x.widest(0, 2), 3);
        CHECK.is("ends()", x.ends(), 9999);
        Check.house(x, "person at 2;binds 1;day 999");
        Check.law(x, "bind 1 if one > 0");
        CHECK.is("widest(1, 2): 1 and 2 alone", x.widest(1, 2), 0b110);
        for (int k = 0; k < 150; k++) {
            x.days(60);
        }
        CHECK.is("on the last DAY none of them binds", x.widest(1, 2), 0b011);
        SharedCup y = Check.of("person at 0;person at 1;day 999;lasts 400");
        for (int k = 0; k < 145; k++) {
            y.days(60);
        }
        CHECK.is("DAY", y.count(3), 9699);
        y.share(3, 0);
        CHECK.is("TILL is 9999 at most", y.bond(0, 1, true), 9999);
        CHECK.is("so it is no later", y.would(3, 0), 0);
    }

    private static void wash() {
        SharedCup x = Check.of("person at 0;person at 0;person at 0;bond 0 1 4 till 10;bond 1 2 6 till 5;day 5");
        CHECK.is("wash(1, 0)", x.wash(1, 0), 4);
        CHECK.is("washed off", x.bond(0, 1, false), 0);
        CHECK.is("without a TILL", x.bond(0, 1, true), -1);
        CHECK.is("one that did not hold", x.wash(1, 2), 0);
        CHECK.is("acts, both", x.count(12), 2);
        Check.house(x, "day 1");
        CHECK.is("it is washed off for all DAYS", x.bond(1, 2, false), 0);
        CHECK.index("wash(0, 3)", () -> x.wash(0, 3));
        CHECK.index("wash(3, 3)", () -> x.wash(3, 3));
        CHECK.argument("wash(0, 0)", () -> x.wash(0, 0));
    }

    private static void goAndStrew() {
        SharedCup x = Check.of("person at 0;person at 3");
        CHECK.is("go(1, 5)", x.go(1, 5), 3);
        CHECK.is("go(1, 0)", x.go(1, 0), 5);
        CHECK.is("ROOM", x.person(1, 0), 0);
        CHECK.is("go to where one is", x.go(1, 0), 0);
        CHECK.is("going is no meeting", x.person(1, 3), 0);
        CHECK.index("go(2, 0)", () -> x.go(2, 0));
        CHECK.index("go(0, 6)", () -> x.go(0, 6));
        CHECK.index("go(0, -1)", () -> x.go(0, -1));
        CHECK.is("acts", x.count(12), 3);
        CHECK.yes("strew(5, true)", x.strew(5, true));
        CHECK.no("strew(5, true) again", x.strew(5, true));
        CHECK.yes("strew(0, true)", x.strew(0, true));
        CHECK.is("FLOUR", x.count(4), 33);
        CHECK.yes("strew(5, false)", x.strew(5, false));
        CHECK.no("strew(5, false) again", x.strew(5, false));
        CHECK.is("FLOUR then", x.count(4), 1);
        CHECK.is("acts, all of them", x.count(12), 8);
        CHECK.index("strew(6, true)", () -> x.strew(6, true));
        CHECK.index("strew(-1, false)", () -> x.strew(-1, false));
        CHECK.index("strew(32, true)", () -> x.strew(32, true));
    }

    private static void wed() {
        SharedCup x = Check.of("person at 0;person at 0;person at 0;person at 0;wed 0 2");
        x.wed(3, 1);
        CHECK.is("WED", x.person(1, 1), 3);
        CHECK.is("pairs WED", x.count(8), 2);
        CHECK.index("wed(0, 4)", () -> x.wed(0, 4));
        CHECK.index("wed(-1, -1)", () -> x.wed(-1, -1));
        CHECK.argument("wed(0, 0), who is WED", () -> x.wed(0, 0));
        x.undo();
        CHECK.throwsA(IllegalStateException.class, "wed(0, 1)", () -> x.wed(0, 1));
        CHECK.throwsA(IllegalStateException.class, "wed(1, 2)", () -> x.wed(1, 2));
        CHECK.throwsA(IllegalStateException.class, "wed(0, 2)", () -> x.wed(0, 2));
        CHECK.is("acts", x.count(12), 0);
        CHECK.is("pairs WED then", x.count(8), 1);
    }

    private static void clear() {
        SharedCup x = Check.of("person at 0;person at 0;flour a;bond 0 1 9 till 99");
        x.days(3);
        CHECK.is("SUSPECTED", x.person(0, 2), 15);
        CHECK.is("clear(0)", x.clear(0), 15);
        CHECK.is("cleared", x.person(0, 2), 0);
        CHECK.is("not the other one", x.person(1, 2), 15);
        CHECK.is("clear(0) again", x.clear(0), 0);
        CHECK.is("acts", x.count(12), 3);
        CHECK.index("clear(2)", () -> x.clear(2));
        CHECK.index("clear(-1)", () -> x.clear(-1));
    }

    /** SEED 1 draws 16838, 5758, 10113, 17515, 31051, 5627, 23010, 7419, .. */
    private static void days() {
        SharedCup x = Check.of("person at 0;person at 3;person at 5;flour d;bond 0 1 8 till 4");
        CHECK.is("8 and 8 are not below 8", x.days(1), 0);
        CHECK.is("0 is where it was", x.person(0, 0), 0);
        CHECK.is("3 and 5 are", x.days(1), 1);
        CHECK.is("0 went to 1", x.person(0, 0), 3);
        CHECK.is("1 stays, as 0 is there by then", x.person(1, 0), 3);
        CHECK.is("DAY", x.count(3), 2);
        CHECK.is("SUSPECTED", x.person(1, 2), 5);
        CHECK.is("MET", x.person(1, 3), 1);
        CHECK.is("MET of one who is elsewhere", x.person(2, 3), 0);
        x.go(0, 0);
        CHECK.is("1 and 7: 0 goes, one footprint; then none holds", x.days(60), 2);
        CHECK.is("SUSPECTED then", x.person(0, 2), 15);
        CHECK.is("footprints in all", x.count(10), 3);
        CHECK.is("eight DRAWS, a pair for each DAY that bound", x.seed(0), seedBehind(8));
        SharedCup y = Check.of("person at 1;person at 1;person at 1;wed 0 1;flour b;bond 0 1 9 till 99;bond 0 2 1 till 99");
        Check.law(y, "suspect 60 if one < 1;suspect 7 if day > 1");
        CHECK.is("the WED leave none", y.days(1), 1);
        CHECK.is("SUSPECTED of the WED", y.person(1, 2), 0);
        CHECK.is("MET, all of them", y.person(1, 3), 0b101);
        y.days(1);
        CHECK.is("99 at most", y.person(2, 2), 99);
        CHECK.argument("days(0)", () -> y.days(0));
        CHECK.argument("days(61)", () -> y.days(61));
        CHECK.argument("days(-1)", () -> y.days(-1));
        CHECK.is("acts", y.count(12), 2);
        Check.law(y, "bind 1");
        CHECK.is("footprints by 0 are told, too", y.days(1), 1);
    }

    private static int seedBehind(int draws) {
        int seed = 1;
        for (int k = 0; k < draws; k++) {
            seed = seed * 1103515245 + 12345;
        }
        return seed;
    }
}

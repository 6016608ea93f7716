/** Edges of promises 7 to 9 and 11 to 17: each method holds one sentence of the document. */
public final class EdgeActsTest {
    private static final Check CHECK = new Check();
    private static final int[] NO_PERSON_OF_TWO = {-1, 2, 8, Integer.MIN_VALUE, Integer.MAX_VALUE};
    private static final int[] NO_ROOM = {-1, 6, 32, Integer.MIN_VALUE, Integer.MAX_VALUE};

    public static void main(String[] args) {
        personWhat();
        suspectedAtMost99();
        suspectedByNought();
        metOfNobodyAndOfAll();
        boundToNobodyAndToAll();
        circleHasOneself();
        mostOfSeveral();
        gladderThanNobody();
        gladderThanByMost();
        twoThatAreOne();
        peopleThatAreNone();
        bondHoldsBelowTill();
        fewerThanTwoShare();
        bitsOfNoneCountForNothing();
        sipsThatAreNone();
        sipHalvesDoublesOrIsNothing();
        nothingChangesByNothing();
        sameAgainIsNoChange();
        oneGreaterOneLater();
        whatDoesNotHoldIsNotLookedAt();
        allShare();
        aCupAsksTheLawOfEachTwo();
        aCupAsksTheLawOfItsSipAndSoMany();
        tillTheLastDay();
        lastDayBindsNobody();
        washedOff();
        goToEachRoom();
        strewEachRoom();
        wedOrNot();
        wedByAnAct();
        theWedMayBeBound();
        clearedFrom99();
        daysOneToSixty();
        dayAtMost9999();
        drawModuloTenBelowBond();
        seedGoesRound();
        moveByNumbers();
        footprintNeedsAll();
        suspectedByTheLawOfEachTwo();
        CHECK.close();
    }

    private static SharedCup two() {
        return Check.of(Check.people(2));
    }

    private static SharedCup eight() {
        return Check.of(Check.people(8));
    }

    /** "NoSuchElementException: another what." */
    private static void personWhat() {
        SharedCup x = two();
        int[] due = {0, -1, 0, 0, 0, 2, 0, -1};
        for (int what = 0; what < 8; what++) {
            CHECK.is("person(1, " + what + ")", x.person(1, what), due[what]);
        }
        for (int none : new int[] {-1, 8, Integer.MIN_VALUE, Integer.MAX_VALUE}) {
            CHECK.element("person(1, " + none + ")", () -> x.person(1, none));
            CHECK.index("person(2, " + none + ")", () -> x.person(2, none));
        }
        for (int none : NO_PERSON_OF_TWO) {
            CHECK.index("person(" + none + ", 0)", () -> x.person(none, 0));
        }
    }

    /** "SUSPECTED of both is more by what it SUSPECTS them by (99 at most)" */
    private static void suspectedAtMost99() {
        SharedCup x = Check.of(Check.people(2), "flour a;bond 0 1 1 till 999");
        x.days(19);
        CHECK.is("19 times 5", x.person(0, 2), 95);
        x.days(1);
        CHECK.is("and 5 more", x.person(0, 2), 99);
        x.days(1);
        CHECK.is("and no more", x.person(1, 2), 99);
        CHECK.is("of all together", x.count(7), 198);
        x.clear(0);
        Check.law(x, "suspect 98");
        x.days(1);
        CHECK.is("98", x.person(0, 2), 98);
        Check.law(x, "suspect 1");
        x.days(1);
        CHECK.is("98 and 1", x.person(0, 2), 99);
        x.clear(0);
        Check.law(x, Check.times("suspect 99", 12, ";"));
        x.days(1);
        CHECK.is("1188 at once", x.person(0, 2), 99);
    }

    /** "each time SUSPECTED of two is told to be more, also by 0" */
    private static void suspectedByNought() {
        SharedCup x = Check.of(Check.people(2), "flour a;bond 0 1 1 till 999");
        Check.law(x, "");
        CHECK.is("footprints", x.days(3), 3);
        CHECK.is("SUSPECTED", x.person(0, 2), 0);
        CHECK.is("rows", x.count(11), 3);
        Check.law(x, "suspect 99");
        x.days(2);
        CHECK.is("at 99 they are told, too", x.count(10), 5);
    }

    /** "MET: those with whom one was in one ROOM behind the moves of a DAY, as bits (nobody at first)" */
    private static void metOfNobodyAndOfAll() {
        SharedCup x = eight();
        for (int person = 0; person < 8; person++) {
            CHECK.is("at first", x.person(person, 3), 0);
        }
        x.days(1);
        for (int person = 0; person < 8; person++) {
            CHECK.is("all but oneself", x.person(person, 3), 255 ^ 1 << person);
        }
        SharedCup y = Check.of("person at 0;person at 1;person at 0");
        y.days(1);
        CHECK.is("0 and 2", y.person(0, 3), 4);
        CHECK.is("1 and nobody", y.person(1, 3), 0);
        y.go(0, 1);
        CHECK.is("not by going alone", y.person(1, 3), 0);
        y.days(1);
        CHECK.is("whom one MET before stays", y.person(0, 3), 6);
    }

    /** "BOUND to one: those with whom a BOND of both holds, as bits" */
    private static void boundToNobodyAndToAll() {
        SharedCup x = eight();
        CHECK.is("nobody", x.person(7, 4), 0);
        CHECK.is("28 pairs", x.share(255, 0), 28);
        for (int person = 0; person < 8; person++) {
            CHECK.is("all but oneself", x.person(person, 4), 255 ^ 1 << person);
        }
        CHECK.is("BONDS", x.count(9), 28);
    }

    /** "CIRCLE of one: all to whom one comes by BONDS that hold, from one to the next, as bits (oneself, too)" */
    private static void circleHasOneself() {
        SharedCup x = Check.of(Check.people(8), Check.times("day 0", 2, ";"));
        CHECK.is("oneself alone", x.person(7, 5), 128);
        Check.house(x, "bond 7 6 1 till 9;bond 6 5 1 till 9;bond 5 4 1 till 9;bond 4 3 1 till 9;bond 3 2 1 till 9;bond 2 1 1 till 9;bond 1 0 1 till 9");
        CHECK.is("a row of eight, from its end", x.person(7, 5), 255);
        CHECK.is("from its begin", x.person(0, 5), 255);
        x.wash(3, 4);
        CHECK.is("parted", x.person(7, 5), 0b11110000);
        CHECK.is("the other part", x.person(0, 5), 0b00001111);
    }

    /** "MOST: the one to whom one's BOND is the greatest (of several the least; none)" */
    private static void mostOfSeveral() {
        SharedCup x = eight();
        CHECK.is("none", x.person(0, 7), -1);
        x.share(255, 0);
        CHECK.is("of 0", x.person(0, 7), 1);
        CHECK.is("of 7", x.person(7, 7), 0);
        Check.house(x, "bond 0 7 6 till 9;bond 0 6 6 till 9");
        CHECK.is("the greatest, of two the lesser", x.person(0, 7), 6);
        Check.house(x, "bond 0 7 7 till 9");
        CHECK.is("the greatest", x.person(0, 7), 7);
        Check.house(x, "day 9");
        CHECK.is("those that do not hold are none", x.person(0, 7), 1);
    }

    /** "(than nobody: a LIKING above 0)" */
    private static void gladderThanNobody() {
        SharedCup x = Check.of(Check.people(4), "likes 0 0019");
        CHECK.is("0 is not above 0, 1 is", x.person(0, 6), 0b1100);
        CHECK.is("who likes nobody", x.person(1, 6), 0);
    }

    /** "GLADDER of one: those whom one likes more than the one of MOST" */
    private static void gladderThanByMost() {
        SharedCup x = Check.of(Check.people(5), "likes 0 03345;bond 0 1 1 till 9");
        CHECK.is("as much is not more", x.person(0, 6), 0b11000);
        Check.house(x, "bond 0 4 2 till 9");
        CHECK.is("by whom one likes best none is gladder", x.person(0, 6), 0);
        Check.house(x, "likes 0 03340");
        CHECK.is("by whom one does not like: all above 0", x.person(0, 6), 0b01110);
    }

    /** "IllegalArgumentException: both are one" */
    private static void twoThatAreOne() {
        SharedCup x = two();
        for (int person = 0; person < 2; person++) {
            int one = person;
            CHECK.argument("liking", () -> x.liking(one, one));
            CHECK.argument("bond", () -> x.bond(one, one, false));
            CHECK.argument("till", () -> x.bond(one, one, true));
            CHECK.argument("wash", () -> x.wash(one, one));
            CHECK.argument("wed", () -> x.wed(one, one));
        }
        CHECK.is("no act", x.count(12), 0);
    }

    /** "IndexOutOfBoundsException: there is no such PERSON, ROOM", which is told first. */
    private static void peopleThatAreNone() {
        SharedCup x = two();
        for (int none : NO_PERSON_OF_TWO) {
            for (int other : new int[] {0, none}) {
                CHECK.index("liking", () -> x.liking(none, other));
                CHECK.index("liking", () -> x.liking(other, none));
                CHECK.index("bond", () -> x.bond(none, other, true));
                CHECK.index("bond", () -> x.bond(other, none, false));
                CHECK.index("wash", () -> x.wash(none, other));
                CHECK.index("wash", () -> x.wash(other, none));
                CHECK.index("wed", () -> x.wed(none, other));
                CHECK.index("wed", () -> x.wed(other, none));
            }
            CHECK.index("go", () -> x.go(none, 0));
            CHECK.index("go nowhere", () -> x.go(none, 6));
            CHECK.index("clear", () -> x.clear(none));
        }
        CHECK.is("no act", x.count(12), 0);
    }

    /** "it holds while it is above 0 and DAY is below TILL" */
    private static void bondHoldsBelowTill() {
        SharedCup x = Check.of(Check.people(2), "bond 0 1 9 till 3");
        for (int day = 0; day < 5; day++) {
            CHECK.is("BOND on DAY " + day, x.bond(1, 0, false), day < 3 ? 9 : 0);
            CHECK.is("TILL on DAY " + day, x.bond(1, 0, true), day < 3 ? 3 : -1);
            CHECK.is("how many hold on DAY " + day, x.count(9), day < 3 ? 1 : 0);
            x.days(1);
        }
        CHECK.is("no BOND", two().bond(0, 1, false), 0);
        CHECK.is("no TILL", two().bond(0, 1, true), -1);
    }

    /** "they are fewer than two" */
    private static void fewerThanTwoShare() {
        SharedCup x = eight();
        CHECK.argument("nobody", () -> x.share(0, 0));
        for (int person = 0; person < 8; person++) {
            int alone = 1 << person;
            CHECK.argument("one alone", () -> x.share(alone, 0));
            CHECK.argument("one who would alone", () -> x.would(alone, 0));
        }
        CHECK.is("two", x.share(0b10000001, 0), 1);
        CHECK.argument("in a house of one", () -> Check.of(Check.people(1)).share(1, 0));
        CHECK.argument("in a house of nobody", () -> new SharedCup().share(-1, 0));
    }

    /** "Sets are bits; of none they count for nothing." */
    private static void bitsOfNoneCountForNothing() {
        SharedCup x = two();
        CHECK.argument("one, and some who are none", () -> x.share(~2, 0));
        CHECK.argument("none at all", () -> x.share(~3, 0));
        Check.law(x, "bind 1 if many > 2;last 1 if many < 3");
        CHECK.is("two, and some who are none", x.share(-1, 0), 1);
        CHECK.is("they are two who share", x.bond(0, 1, false), 5);
        CHECK.is("for LASTS, too", x.bond(0, 1, true), 101);
        SharedCup y = eight();
        CHECK.is("all, and some who are none", y.share(Integer.MAX_VALUE, 0), 28);
        CHECK.is("256 and more are none of eight", y.would(0x7fffff00 | 3, 2), 1);
    }

    /** "or the SIP is none" */
    private static void sipsThatAreNone() {
        SharedCup x = two();
        for (int none : new int[] {-1, 4, Integer.MIN_VALUE, Integer.MAX_VALUE}) {
            CHECK.argument("share", () -> x.share(3, none));
            CHECK.argument("would", () -> x.would(3, none));
        }
        CHECK.is("no act", x.count(12), 0);
        CHECK.is("no BOND", x.count(9), 0);
    }

    /** "with SIP 1 halved and rounded down, with SIP 2 twice as much (9 at most), with SIP 3 nothing" */
    private static void sipHalvesDoublesOrIsNothing() {
        for (int binds = 1; binds <= 9; binds++) {
            int[] due = {binds, binds / 2, binds * 2 > 9 ? 9 : binds * 2, 0};
            for (int sip = 0; sip <= 3; sip++) {
                SharedCup x = Check.of(Check.people(2), "binds " + binds);
                String cup = binds + " with SIP " + sip;
                CHECK.is("would: " + cup, x.would(3, sip), due[sip] > 0 ? 1 : 0);
                CHECK.is("share: " + cup, x.share(3, sip), due[sip] > 0 ? 1 : 0);
                CHECK.is("BOND: " + cup, x.bond(0, 1, false), due[sip]);
                CHECK.is("TILL: " + cup, x.bond(0, 1, true), due[sip] > 0 ? 100 : -1);
            }
        }
    }

    /** "else nothing changes of these two" */
    private static void nothingChangesByNothing() {
        SharedCup x = Check.of(Check.people(2), "binds 1;bond 0 1 4 till 5");
        CHECK.is("half of 1", x.share(3, 1), 0);
        CHECK.is("TILL is no later", x.bond(0, 1, true), 5);
        CHECK.is("SIP 3", x.share(3, 3), 0);
        CHECK.is("TILL is no later by that", x.bond(0, 1, true), 5);
        CHECK.is("BOND is what it was", x.bond(0, 1, false), 4);
        CHECK.is("both are acts", x.count(12), 2);
    }

    /** "BOND greater than it is (0, if it does not hold), or TILL later" */
    private static void sameAgainIsNoChange() {
        SharedCup x = Check.of(Check.people(2), "bond 0 1 5 till 100");
        CHECK.is("as great and as late", x.would(3, 0), 0);
        CHECK.is("so nothing is changed", x.share(3, 0), 0);
        Check.house(x, "bond 0 1 5 till 99");
        CHECK.is("a DAY later", x.would(3, 0), 1);
        Check.house(x, "bond 0 1 4 till 100");
        CHECK.is("1 greater", x.would(3, 0), 1);
        Check.house(x, "bond 0 1 6 till 101");
        CHECK.is("less, and earlier", x.would(3, 0), 0);
    }

    /** "BOND is the greater of what it is, if it holds, and that, TILL the later of what it is, if it holds, and DAY and .." */
    private static void oneGreaterOneLater() {
        SharedCup x = Check.of(Check.people(2), "bond 0 1 9 till 50");
        CHECK.is("later alone", x.share(3, 0), 1);
        CHECK.is("BOND 9", x.bond(0, 1, false), 9);
        CHECK.is("TILL 100", x.bond(0, 1, true), 100);
        Check.house(x, "bond 0 1 1 till 500");
        CHECK.is("greater alone", x.share(3, 0), 1);
        CHECK.is("BOND 5", x.bond(0, 1, false), 5);
        CHECK.is("TILL 500", x.bond(0, 1, true), 500);
    }

    private static void whatDoesNotHoldIsNotLookedAt() {
        SharedCup x = Check.of(Check.people(2), "bond 0 1 9 till 500;day 500;lasts 1;binds 2");
        CHECK.is("share", x.share(3, 0), 1);
        CHECK.is("BOND", x.bond(0, 1, false), 2);
        CHECK.is("TILL", x.bond(0, 1, true), 501);
        SharedCup y = Check.of(Check.people(2), "bond 0 1 9 till 501;day 500;lasts 1;binds 2");
        CHECK.is("but on its last DAY", y.share(3, 0), 0);
        CHECK.is("BOND", y.bond(0, 1, false), 9);
    }

    private static void allShare() {
        SharedCup x = eight();
        Check.law(x, "bind 4 if many > 7;last 7 if one + other > 12");
        CHECK.is("would", x.would(255, 0), 28);
        CHECK.is("share", x.share(255, 0), 28);
        CHECK.is("BOND", x.bond(6, 7, false), 9);
        CHECK.is("TILL of 6 and 7", x.bond(6, 7, true), 107);
        CHECK.is("TILL of 5 and 7", x.bond(5, 7, true), 100);
        CHECK.is("again", x.share(255, 0), 0);
    }

    /** "of each two of them, in the order of one, then other": what it BINDS and what it LASTS is of these two. */
    private static void aCupAsksTheLawOfEachTwo() {
        SharedCup x = Check.of(Check.people(3), "binds 1;lasts 1");
        Check.law(x, "bind 1 if one < 1;bind 2 if other > 1;last 1 if one < 1;last 2 if other > 1");
        CHECK.is("would", x.would(7, 0), 3);
        CHECK.is("share", x.share(7, 0), 3);
        int[][] due = {{0, 1, 2}, {0, 2, 4}, {1, 2, 3}};
        for (int[] pair : due) {
            CHECK.is("BOND of " + pair[0] + " and " + pair[1], x.bond(pair[0], pair[1], false), pair[2]);
            CHECK.is("TILL of " + pair[0] + " and " + pair[1], x.bond(pair[0], pair[1], true), pair[2]);
        }
        CHECK.is("would again", x.would(7, 0), 0);
    }

    /** "sip: 0 to 3; many: how many share the cup" */
    private static void aCupAsksTheLawOfItsSipAndSoMany() {
        int[][] due = {{3, 0, 1, 1}, {3, 1, 0, -1}, {3, 2, 4, 2}, {7, 0, 3, 3}, {7, 1, 1, 3}, {7, 2, 8, 4}};
        for (int[] cup : due) {
            SharedCup x = Check.of(Check.people(3), "binds 1;lasts 1");
            Check.law(x, "bind 1 if sip > 1;bind 2 if many > 2;last 1 if sip > 1;last 2 if many > 2");
            x.share(cup[0], cup[1]);
            String name = " of a cup of " + cup[0] + " with SIP " + cup[1];
            CHECK.is("BOND" + name, x.bond(0, 1, false), cup[2]);
            CHECK.is("TILL" + name, x.bond(0, 1, true), cup[3]);
        }
    }

    private static SharedCup onDay(int day, String text) {
        SharedCup x = Check.of(Check.people(2), text + ";day 999");
        int left = day - 999;
        while (left > 0) {
            x.days(Math.min(60, left));
            left -= 60;
        }
        CHECK.is("DAY", x.count(3), day);
        return x;
    }

    /** "DAY and what it LASTS for them (9999 at most)" */
    private static void tillTheLastDay() {
        int[] days = {9598, 9599, 9600, 9998};
        int[] tills = {9998, 9999, 9999, 9999};
        for (int k = 0; k < days.length; k++) {
            SharedCup x = onDay(days[k], "lasts 400");
            CHECK.is("share on DAY " + days[k], x.share(3, 0), 1);
            CHECK.is("TILL on DAY " + days[k], x.bond(0, 1, true), tills[k]);
            CHECK.is("ends() on DAY " + days[k], x.ends(), tills[k]);
        }
        SharedCup y = onDay(9600, "lasts 399");
        y.share(3, 0);
        CHECK.is("TILL 9999", y.bond(0, 1, true), 9999);
        y.days(60);
        CHECK.is("no later", y.share(3, 0), 0);
    }

    /** On DAY 9999 none holds, as no TILL is above it; a BOND that does not hold counts 0, so that a CUP changes it. */
    private static void lastDayBindsNobody() {
        SharedCup x = onDay(9998, "lasts 1");
        x.share(3, 2);
        CHECK.is("on the DAY before", x.bond(0, 1, false), 9);
        x.days(1);
        CHECK.is("on the last DAY", x.bond(0, 1, false), 0);
        CHECK.is("would", x.would(3, 0), 1);
        CHECK.is("share", x.share(3, 0), 1);
        CHECK.is("BOND", x.bond(0, 1, false), 0);
        CHECK.is("TILL", x.bond(0, 1, true), -1);
        CHECK.is("BONDS", x.count(9), 0);
        CHECK.is("wash", x.wash(0, 1), 0);
    }

    /** "Washed off: what the BOND was (0, if it did not hold)" */
    private static void washedOff() {
        SharedCup x = eight();
        CHECK.is("without one", x.wash(0, 7), 0);
        x.share(255, 0);
        int left = 28;
        for (int one = 0; one < 8; one++) {
            for (int other = one + 1; other < 8; other++) {
                CHECK.is("wash(" + other + ", " + one + ")", x.wash(other, one), 5);
                left--;
                CHECK.is("BONDS", x.count(9), left);
            }
        }
        CHECK.is("again", x.wash(7, 6), 0);
        SharedCup y = Check.of(Check.people(2), "bond 0 1 9 till 4;day 4");
        CHECK.is("one that does not hold on its TILL", y.wash(0, 1), 0);
        SharedCup z = Check.of(Check.people(2), "bond 0 1 9 till 4;day 3");
        CHECK.is("one that holds on the DAY before", z.wash(0, 1), 9);
    }

    private static void goToEachRoom() {
        SharedCup x = two();
        int was = 0;
        for (int room : new int[] {5, 0, 4, 1, 3, 2, 2}) {
            CHECK.is("go(1, " + room + ")", x.go(1, room), was);
            CHECK.is("ROOM", x.person(1, 0), room);
            was = room;
        }
        CHECK.is("the other one stays", x.person(0, 0), 0);
        for (int none : NO_ROOM) {
            CHECK.index("go(1, " + none + ")", () -> x.go(1, none));
        }
        CHECK.is("ROOM", x.person(1, 0), 2);
        CHECK.is("acts", x.count(12), 7);
    }

    /** "FLOUR is strewn, or swept: whether that changed" */
    private static void strewEachRoom() {
        SharedCup x = new SharedCup();
        for (int room = 0; room <= 5; room++) {
            CHECK.no("sweep what has none", x.strew(room, false));
            CHECK.yes("strew", x.strew(room, true));
            CHECK.is("FLOUR", x.count(4), (2 << room) - 1);
            CHECK.no("strew what has it", x.strew(room, true));
        }
        for (int room = 5; room >= 0; room--) {
            CHECK.yes("sweep", x.strew(room, false));
            CHECK.is("FLOUR", x.count(4), (1 << room) - 1);
        }
        for (int none : NO_ROOM) {
            CHECK.index("strew", () -> x.strew(none, true));
            CHECK.index("sweep", () -> x.strew(none, false));
        }
        CHECK.is("FLOUR", x.count(4), 0);
    }

    /** "IllegalArgumentException: both are one; IllegalStateException: one of both is WED." */
    private static void wedOrNot() {
        SharedCup x = eight();
        for (int one = 0; one < 8; one += 2) {
            x.wed(one + 1, one);
            CHECK.is("pairs WED", x.count(8), one / 2 + 1);
        }
        for (int one = 0; one < 8; one++) {
            CHECK.is("WED to", x.person(one, 1), one ^ 1);
        }
        SharedCup y = Check.of(Check.people(4), "wed 0 1");
        CHECK.state("both", () -> y.wed(0, 1));
        CHECK.state("both, turned", () -> y.wed(1, 0));
        CHECK.state("the first", () -> y.wed(0, 2));
        CHECK.state("the other", () -> y.wed(2, 1));
        CHECK.argument("one who is WED with oneself", () -> y.wed(0, 0));
        CHECK.index("one who is WED with none", () -> y.wed(0, 4));
        CHECK.is("no act", y.count(12), 0);
        CHECK.is("still one pair", y.count(8), 1);
        y.wed(3, 2);
        CHECK.is("two pairs", y.count(8), 2);
    }

    private static void wedByAnAct() {
        SharedCup x = Check.of(Check.people(3));
        x.wed(0, 1);
        CHECK.state("the first", () -> x.wed(0, 2));
        CHECK.state("the other", () -> x.wed(2, 1));
        CHECK.yes("undo()", x.undo());
        x.wed(2, 1);
        CHECK.is("1 is WED to 2", x.person(1, 1), 2);
        CHECK.is("0 to none", x.person(0, 1), -1);
    }

    /** A BOND of two who are WED to each other is a BOND as any other; it is no SECRET alone. */
    private static void theWedMayBeBound() {
        SharedCup x = Check.of(Check.people(3), "wed 0 1;bond 0 1 7 till 50;bond 1 2 3 till 60");
        CHECK.is("BOND", x.bond(0, 1, false), 7);
        CHECK.is("TILL", x.bond(1, 0, true), 50);
        CHECK.is("BOUND to 1", x.person(1, 4), 0b101);
        CHECK.is("CIRCLE of 0", x.person(0, 5), 0b111);
        CHECK.is("MOST of 1", x.person(1, 7), 0);
        CHECK.is("BONDS", x.count(9), 2);
        CHECK.is("SECRETS", x.secrets(), 1);
        CHECK.is("FREE on DAY 49", x.free(49), 0);
        CHECK.is("FREE on DAY 50", x.free(50), 0b001);
        CHECK.is("steps from 0 to 2", x.between(0, 2), 2);
        CHECK.is("ODDS", x.odds(0, 1), 49);
        CHECK.is("as great, but later", x.would(3, 0), 1);
        CHECK.is("wash", x.wash(0, 1), 7);
        SharedCup y = Check.of("person at 0;person at 3;wed 0 1;bond 0 1 9 till 77");
        CHECK.is("ENDS", y.ends(), 77);
        CHECK.is("one goes to the other", y.ahead(0, 1, false), 3);
    }

    /** "Cleared: SUSPECTED that it was" */
    private static void clearedFrom99() {
        SharedCup x = Check.of(Check.people(2), "flour a;bond 0 1 1 till 999");
        CHECK.is("0", x.clear(0), 0);
        x.days(60);
        CHECK.is("99", x.clear(0), 99);
        CHECK.is("0 again", x.clear(0), 0);
        CHECK.is("the other one", x.clear(1), 99);
        CHECK.is("of all", x.count(7), 0);
        CHECK.is("footprints stay", x.count(10), 60);
    }

    /** "So many DAYS more (1 to 60): footprints." */
    private static void daysOneToSixty() {
        SharedCup x = Check.of(Check.people(2), "flour a;bond 0 1 1 till 999");
        CHECK.is("days(1)", x.days(1), 1);
        CHECK.is("DAY 1", x.count(3), 1);
        CHECK.is("days(60)", x.days(60), 60);
        CHECK.is("DAY 61", x.count(3), 61);
        for (int none : new int[] {0, 61, -1, -60, Integer.MIN_VALUE, Integer.MAX_VALUE}) {
            CHECK.argument("days(" + none + ")", () -> x.days(none));
        }
        CHECK.is("DAY is still 61", x.count(3), 61);
        CHECK.is("two acts", x.count(12), 2);
        CHECK.is("days(1) of nobody", new SharedCup().days(1), 0);
    }

    /** "DAY is 1 more (9999 at most)" */
    private static void dayAtMost9999() {
        SharedCup x = onDay(9939, "lasts 5");
        CHECK.is("days(60)", x.days(60), 0);
        CHECK.is("DAY 9999", x.count(3), 9999);
        CHECK.is("days(1)", x.days(1), 0);
        CHECK.is("DAY is no more", x.count(3), 9999);
        x.days(60);
        CHECK.is("nor by many", x.count(3), 9999);
        SharedCup y = onDay(9997, "flour a;bond 0 1 9 till 999");
        y.share(3, 0);
        CHECK.is("footprints on 9997 and 9998, not on 9999", y.days(60), 2);
        CHECK.is("the latest DAY", y.log(0, 0), 9998);
        CHECK.is("MET on the last DAY, too", y.person(0, 3), 2);
    }

    /** SEED is 1103515245 times SEED and 12345, told here without an int that goes round. */
    private static long next(long seed) {
        return Math.floorMod(seed * 1103515245L + 12345L, 1L << 32);
    }

    private static int draw(long seed) {
        return (int) (seed / 65536 % 32768);
    }

    /** "DRAW modulo 10 below that BOND: it goes to the ROOM of that one. (A DRAW for each who is bound.)" */
    private static void drawModuloTenBelowBond() {
        boolean[] seen = new boolean[10];
        for (int seed = 1; seed <= 60; seed++) {
            long first = next(seed);
            int zero = draw(first) % 10;
            int one = draw(next(first)) % 10;
            seen[zero] = true;
            for (int bond : new int[] {1, 5, 9, zero, zero + 1}) {
                if (bond < 1 || bond > 9) {
                    continue;
                }
                SharedCup x = Check.of("person at 0;person at 3;bond 0 1 " + bond + " till 9");
                x.seed(seed);
                x.days(1);
                String name = "DRAWS " + zero + " and " + one + ", BOND " + bond;
                CHECK.is("0 by " + name, x.person(0, 0), zero < bond ? 3 : 0);
                CHECK.is("1 by " + name, x.person(1, 0), zero >= bond && one < bond ? 0 : 3);
                CHECK.is("SEED by " + name, x.seed(0), (int) next(first));
            }
        }
        for (int digit = 0; digit < 10; digit++) {
            CHECK.yes("a DRAW of " + digit, seen[digit]);
        }
    }

    /** "as an int that goes round; bits 16 to 30" */
    private static void seedGoesRound() {
        for (int seed : new int[] {0, -1, Integer.MIN_VALUE, Integer.MAX_VALUE, 65536, -65536, 1 << 30, 123456789}) {
            SharedCup x = Check.of("person at 0;person at 3;bond 0 1 5 till 9");
            x.seed(seed);
            x.days(1);
            long first = next(Math.floorMod((long) seed, 1L << 32));
            CHECK.is("0 by SEED " + seed, x.person(0, 0), draw(first) % 10 < 5 ? 3 : 0);
            CHECK.is("SEED behind " + seed, x.seed(0), (int) next(first));
        }
    }

    /** "each PERSON, by numbers" goes to where that one is by then. */
    private static void moveByNumbers() {
        SharedCup x = Check.of("person at 0;person at 1;person at 2;person at 3",
            "bond 0 1 1 till 9;bond 1 2 2 till 9;bond 2 3 3 till 9");
        int[] due = {1, 2, 3, 3};
        for (int person = 0; person < 4; person++) {
            CHECK.is("one step each: " + person, x.ahead(person, 1, false), due[person]);
        }
        SharedCup y = Check.of("person at 0;person at 1;person at 2;person at 3",
            "bond 0 1 3 till 9;bond 1 2 2 till 9;bond 2 3 1 till 9");
        for (int person = 0; person < 4; person++) {
            CHECK.is("all behind 0: " + person, y.ahead(person, 1, false), 1);
        }
    }

    /** "SUSPECTED of both is more by what it SUSPECTS them by" */
    private static void suspectedByTheLawOfEachTwo() {
        SharedCup x = Check.of(Check.people(3), "flour a");
        Check.law(x, "suspect 1 if one < 1;suspect 2 if other > 1");
        x.share(7, 0);
        CHECK.is("footprints", x.days(1), 3);
        int[] due = {1 + 3, 1 + 2, 3 + 2};
        for (int person = 0; person < 3; person++) {
            CHECK.is("SUSPECTED of " + person, x.person(person, 2), due[person]);
        }
    }

    /** "if they are not WED to each other, a BOND of both holds, and the ROOM has FLOUR" */
    private static void footprintNeedsAll() {
        CHECK.is("all of it", Check.of(Check.people(2), "flour a;bond 0 1 1 till 1").days(60), 1);
        CHECK.is("no BOND", Check.of(Check.people(2), "flour a").days(60), 0);
        CHECK.is("a BOND that does not hold", Check.of(Check.people(2), "flour a;bond 0 1 9 till 1;day 1").days(60), 0);
        CHECK.is("no FLOUR there", Check.of(Check.people(2), "flour bcdef;bond 0 1 9 till 9").days(60), 0);
        CHECK.is("WED to each other", Check.of(Check.people(2), "flour a;wed 0 1;bond 0 1 9 till 9").days(60), 0);
        CHECK.is("WED to others", Check.of(Check.people(4), "flour a;wed 0 2;wed 1 3;bond 0 1 9 till 9").days(60), 9);
        SharedCup x = eight();
        Check.house(x, "flour a");
        x.share(255, 0);
        CHECK.is("28 on a DAY", x.days(1), 28);
        CHECK.is("SUSPECTED", x.person(0, 2), 35);
        CHECK.is("SUSPECTED of all together", x.count(7), 280);
    }
}

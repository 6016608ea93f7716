/** Edges of promises 18 to 30: each method holds one sentence of the document. */
public final class EdgeBondsTest {
    private static final Check CHECK = new Check();
    private static final int[] WILD = {-2, 8, Integer.MIN_VALUE, Integer.MAX_VALUE};
    private static final String ROW = "bond 0 1 1 till 9;bond 1 2 1 till 9;bond 2 3 1 till 9;bond 3 4 1 till 9;"
        + "bond 4 5 1 till 9;bond 5 6 1 till 9;bond 6 7 1 till 9";

    public static void main(String[] args) {
        circlesOfTwoAtLeast();
        endsNowOrToCome();
        freeOnTheFirstAndTheLastDay();
        freeWhereTillIsAbove();
        freeAsBondsAreNow();
        secretsOfNoneAndOfAll();
        wouldChangesNothing();
        widestOfTwoToEight();
        widestOfSeveral();
        widestOfNone();
        widestCountsAllPairs();
        widestByTheLeastBond();
        widestByTheLawOfEachTwo();
        widestOfTheWed();
        partsOfNoneAndOfAll();
        partsOfTwoThatAreNone();
        loversOfNoneAndOfAll();
        loversBothGladder();
        steadyOfNobodyAndOfFew();
        steadyLeftOut();
        steadyFirst();
        steadyNone();
        steadyAskedAgain();
        steadyPeopleThatAreNone();
        fondestOfNoneAndOfAll();
        fondestLeavesOut();
        tellNobodyAndAllButOne();
        tellTheLeast();
        betweenOneselfAndNone();
        hubOfNoneAndOfSeveral();
        CHECK.close();
    }

    private static SharedCup eight(String... texts) {
        SharedCup x = Check.of(Check.people(8));
        for (String text : texts) {
            Check.house(x, text);
        }
        return x;
    }

    private static SharedCup allBound() {
        SharedCup x = eight();
        x.share(255, 0);
        return x;
    }

    /** "CIRCLES: how many CIRCLES of two at least there are." */
    private static void circlesOfTwoAtLeast() {
        CHECK.is("none, though each has one of oneself", eight().circles(), 0);
        CHECK.is("one of two", eight("bond 6 7 1 till 1").circles(), 1);
        CHECK.is("four of two", eight("bond 0 7 1 till 9;bond 1 6 1 till 9;bond 2 5 1 till 9;bond 3 4 1 till 9").circles(), 4);
        CHECK.is("one of eight", eight(ROW).circles(), 1);
        CHECK.is("one of all", allBound().circles(), 1);
        CHECK.is("one that does not hold", eight("bond 6 7 1 till 1;day 1").circles(), 0);
    }

    /** "ENDS: the first DAY (now, or to come) on which no BOND holds." */
    private static void endsNowOrToCome() {
        CHECK.is("now", eight("day 77").ends(), 77);
        CHECK.is("now, where one does not hold", eight("bond 0 1 9 till 77;day 77").ends(), 77);
        CHECK.is("where one did not hold for long", eight("bond 0 1 9 till 5;day 77").ends(), 77);
        CHECK.is("to come", eight("bond 0 1 9 till 78;day 77").ends(), 78);
        CHECK.is("the last of several", eight("bond 0 1 9 till 80;bond 6 7 1 till 999;bond 2 3 9 till 90;day 77").ends(), 999);
        SharedCup x = Check.onLastDay(Check.people(2));
        CHECK.is("the last DAY", x.ends(), 9999);
        x.share(3, 0);
        CHECK.is("the last DAY, behind a CUP", x.ends(), 9999);
    }

    /** "FREE on a told DAY (0 to 9999)" */
    private static void freeOnTheFirstAndTheLastDay() {
        SharedCup x = allBound();
        CHECK.is("free(0)", x.free(0), 0);
        CHECK.is("free(9999)", x.free(9999), 255);
        CHECK.is("free(0) of none bound", eight().free(0), 255);
        CHECK.is("free(0) of nobody", new SharedCup().free(0), 0);
        for (int none : new int[] {-1, 10000, Integer.MIN_VALUE, Integer.MAX_VALUE}) {
            CHECK.argument("free(" + none + ")", () -> x.free(none));
            CHECK.argument("free of nobody", () -> new SharedCup().free(none));
        }
    }

    /** "(TILL above that DAY)" */
    private static void freeWhereTillIsAbove() {
        SharedCup x = eight("bond 0 7 1 till 1;bond 1 6 1 till 2;bond 2 5 9 till 999");
        CHECK.is("free(0)", x.free(0), 0b00011000);
        CHECK.is("free(1)", x.free(1), 0b10011001);
        CHECK.is("free(2)", x.free(2), 0b11011011);
        CHECK.is("free(998)", x.free(998), 0b11011011);
        CHECK.is("free(999)", x.free(999), 0b11111111);
    }

    /** "PEOPLE whom none of the BONDS, as they are now, would bind then" */
    private static void freeAsBondsAreNow() {
        SharedCup x = eight("bond 0 1 1 till 5;day 5");
        CHECK.is("of a DAY that is over", x.free(4), 0b11111100);
        CHECK.is("today", x.free(5), 255);
        x.wash(0, 1);
        CHECK.is("washed off", x.free(4), 255);
        SharedCup y = eight("bond 0 1 1 till 50");
        y.wash(0, 1);
        CHECK.is("washed off while it held", y.free(0), 255);
    }

    /** "SECRETS: pairs bound who are not WED to each other: how many." */
    private static void secretsOfNoneAndOfAll() {
        CHECK.is("none", eight().secrets(), 0);
        SharedCup x = allBound();
        CHECK.is("all", x.secrets(), 28);
        x.wed(0, 7);
        x.wed(1, 6);
        x.wed(2, 5);
        x.wed(3, 4);
        CHECK.is("all but the WED", x.secrets(), 24);
        CHECK.is("the WED alone", eight("wed 0 7;bond 0 7 9 till 9").secrets(), 0);
        CHECK.is("WED to others", eight("wed 0 7;wed 1 6;bond 0 1 9 till 9").secrets(), 1);
        CHECK.is("what does not hold", eight("bond 0 1 9 till 9;day 9").secrets(), 0);
    }

    /** "how many pairs a CUP would change" */
    private static void wouldChangesNothing() {
        SharedCup x = eight();
        x.go(0, 1);
        String before = Check.all(x);
        CHECK.is("all of them", x.would(255, 0), 28);
        CHECK.is("two of them", x.would(0b10000001, 0), 1);
        CHECK.is("with SIP 3 none", x.would(255, 3), 0);
        CHECK.same("nothing stays", Check.all(x), before);
        CHECK.is("it is no act", x.count(12), 1);
        x.share(255, 0);
        CHECK.is("none of them again", x.would(255, 0), 0);
        CHECK.is("all of them with SIP 2", x.would(255, 2), 28);
    }

    /** "the CUP of K PEOPLE (2 to 8)", "IllegalArgumentException: the SIP or K are none." */
    private static void widestOfTwoToEight() {
        SharedCup x = eight();
        for (int k = 2; k <= 8; k++) {
            for (int sip = 0; sip <= 3; sip++) {
                CHECK.is("widest(" + sip + ", " + k + ")", x.widest(sip, k), (1 << k) - 1);
            }
        }
        for (int none : new int[] {1, 0, -1, 9, Integer.MIN_VALUE, Integer.MAX_VALUE}) {
            CHECK.argument("K " + none, () -> x.widest(0, none));
            CHECK.argument("K of nobody " + none, () -> new SharedCup().widest(0, none));
        }
        for (int none : new int[] {-1, 4, Integer.MIN_VALUE, Integer.MAX_VALUE}) {
            CHECK.argument("SIP " + none, () -> x.widest(none, 2));
        }
    }

    /** "of several the least as bits" */
    private static void widestOfSeveral() {
        SharedCup x = eight();
        x.share(127, 0);
        CHECK.is("7 with the least", x.widest(0, 2), 0b10000001);
        CHECK.is("7 with the two least", x.widest(0, 3), 0b10000011);
        CHECK.is("7 with six of the others", x.widest(0, 7), 0b10111111);
        CHECK.is("with SIP 3 the least of all", x.widest(3, 3), 0b00000111);
        x.share(255, 0);
        CHECK.is("where all hold the least of all", x.widest(0, 4), 0b00001111);
        SharedCup y = eight("bond 0 1 1 till 999;bond 2 3 1 till 999");
        CHECK.is("two of two pairs", y.widest(0, 2), 0b00000101);
    }

    /** "none" where they are fewer than K. */
    private static void widestOfNone() {
        for (int people = 0; people <= 8; people++) {
            SharedCup x = people == 0 ? new SharedCup() : Check.of(Check.people(people));
            for (int k = 2; k <= 8; k++) {
                CHECK.is(k + " of " + people, x.widest(0, k), k > people ? -1 : (1 << k) - 1);
            }
        }
    }

    /** "behind which the BONDS of the most pairs hold": a BOND that is only made stronger held before. */
    private static void widestCountsAllPairs() {
        SharedCup x = Check.of(Check.people(4), "binds 9;bond 0 1 1 till 2;bond 0 2 1 till 2;bond 1 2 1 till 2");
        CHECK.is("two", x.widest(0, 2), 0b1001);
        CHECK.is("three", x.widest(0, 3), 0b1011);
        SharedCup y = Check.onLastDay(Check.people(3));
        CHECK.is("on the last DAY none holds", y.widest(0, 2), 0b011);
        Check.house(y, "binds 1");
        Check.law(y, "bind 1 if one > 0");
        CHECK.is("though a CUP gives some a BOND then", y.widest(1, 2), 0b011);
    }

    /** The least BOND, 1, holds as any other one; 0 binds nobody. */
    private static void widestByTheLeastBond() {
        SharedCup x = eight("binds 1", "bond 0 1 1 till 9");
        CHECK.is("BINDS 1", x.widest(0, 2), 0b00000101);
        CHECK.is("half of 1", x.widest(1, 2), 0b00000011);
        Check.law(x, "bind 1 if one > 5");
        CHECK.is("half of 2", x.widest(1, 2), 0b11000000);
        CHECK.is("half of 2 among three", x.widest(1, 3), 0b11000001);
        Check.law(x, "bind 1 if one > 3 and other < 7");
        CHECK.is("4, 5 and 6", x.widest(1, 3), 0b01110000);
    }

    private static void widestByTheLawOfEachTwo() {
        SharedCup x = eight("binds 1");
        Check.law(x, "bind 1 if other > 6");
        CHECK.is("by the other one", x.widest(1, 2), 0b10000001);
        Check.law(x, "bind 1 if one > 6");
        CHECK.is("nobody is bound to oneself", x.widest(1, 2), 0b00000011);
        Check.law(x, "bind 1 if many > 2 and one > 4");
        CHECK.is("by so many: two", x.widest(1, 2), 0b00000011);
        CHECK.is("by so many: three", x.widest(1, 3), 0b11100000);
        Check.law(x, "bind 1 if sip > 0 and many < 4 and one > 4");
        CHECK.is("by the SIP and so many: three", x.widest(1, 3), 0b11100000);
        CHECK.is("by the SIP and so many: four", x.widest(1, 4), 0b00001111);
    }

    private static void widestOfTheWed() {
        SharedCup x = eight("wed 0 1;bond 0 1 1 till 9");
        CHECK.is("the WED who are bound hold before", x.widest(0, 2), 0b00000101);
        CHECK.is("the WED who are not bound are as all others", eight("wed 0 1").widest(0, 2), 0b00000011);
    }

    /** "PARTS: the fewest BONDS to be washed off, so that two are not in one CIRCLE: how many." */
    private static void partsOfNoneAndOfAll() {
        CHECK.is("not in one", eight().parts(0, 7), 0);
        CHECK.is("a row", eight(ROW).parts(0, 7), 1);
        SharedCup x = eight(ROW, "bond 0 7 1 till 9");
        CHECK.is("a ring", x.parts(0, 4), 2);
        CHECK.is("a ring, beside one another", x.parts(0, 1), 2);
        CHECK.is("all", allBound().parts(0, 7), 7);
        CHECK.is("all, turned", allBound().parts(7, 0), 7);
        CHECK.is("two", Check.of(Check.people(2), "bond 0 1 9 till 9").parts(1, 0), 1);
        Check.house(x, "day 9");
        CHECK.is("what does not hold", x.parts(0, 7), 0);
        // two circles of four, all bound among themselves, by one BOND between
        SharedCup y = eight();
        y.share(0b00001111, 0);
        y.share(0b11110000, 0);
        CHECK.is("two circles", y.parts(0, 7), 0);
        Check.house(y, "bond 3 4 1 till 9");
        CHECK.is("one between", y.parts(0, 7), 1);
        CHECK.is("within", y.parts(0, 3), 3);
    }

    private static void partsOfTwoThatAreNone() {
        SharedCup x = eight();
        for (int none : new int[] {-1, 8, Integer.MIN_VALUE, Integer.MAX_VALUE}) {
            CHECK.index("parts(" + none + ", 0)", () -> x.parts(none, 0));
            CHECK.index("parts(0, " + none + ")", () -> x.parts(0, none));
            CHECK.index("parts of both", () -> x.parts(none, none));
        }
        CHECK.argument("parts(7, 7)", () -> x.parts(7, 7));
    }

    /** "LOVERS: .. how many; the first one (10 times the one and the other; none)" */
    private static void loversOfNoneAndOfAll() {
        CHECK.is("none", eight().lovers(false), 0);
        CHECK.is("the first of none", eight().lovers(true), -1);
        CHECK.is("of nobody", new SharedCup().lovers(true), -1);
        CHECK.is("of nobody, how many", new SharedCup().lovers(false), 0);
        SharedCup x = eight("likes 0 11111111;likes 1 11111111;likes 2 11111111;likes 3 11111111",
            "likes 4 11111111;likes 5 11111111;likes 6 11111111;likes 7 11111111");
        CHECK.is("all", x.lovers(false), 28);
        CHECK.is("the first of all", x.lovers(true), 1);
        SharedCup y = eight("likes 6 00000001;likes 7 00000010");
        CHECK.is("the last two", y.lovers(false), 1);
        CHECK.is("are the first", y.lovers(true), 67);
    }

    /** "pairs who would both be GLADDER by one another" */
    private static void loversBothGladder() {
        CHECK.is("one of both", eight("likes 6 00000009").lovers(false), 0);
        CHECK.is("both", eight("likes 6 00000001;likes 7 00000010").lovers(false), 1);
        CHECK.is("as much as whom one has is not more",
            eight("likes 6 10000001;likes 7 00000010;bond 0 6 1 till 9").lovers(false), 0);
        CHECK.is("who are bound to each other most",
            eight("likes 6 00000009;likes 7 00000090;bond 6 7 1 till 9").lovers(false), 0);
        CHECK.is("more than whom one has",
            eight("likes 6 10000002;likes 7 00000010;bond 0 6 1 till 9").lovers(true), 67);
    }

    /** "STEADY: ways to put all PEOPLE into pairs (one is left out, if they are odd)": how many */
    private static void steadyOfNobodyAndOfFew() {
        int[] ways = {1, 1, 1, 3, 3, 15, 15, 105, 105};
        for (int people = 0; people <= 8; people++) {
            SharedCup x = people == 0 ? new SharedCup() : Check.of(Check.people(people));
            CHECK.is("all ways of " + people, x.steady(-1), ways[people]);
            for (int person = 0; person < people; person++) {
                int due = people % 2 == 0 ? person ^ 1 : person == 0 ? 0 : (person - 1 ^ 1) + 1;
                CHECK.is("whom " + person + " has of " + people, x.steady(person), due);
            }
        }
    }

    /** "(one who is left out likes nobody: less than 0)" */
    private static void steadyLeftOut() {
        // 1 likes 0 above 2, so that 0 cannot be left out: 0 likes 1 by 0, which is more than nobody
        SharedCup x = Check.of(Check.people(3), "likes 1 100");
        CHECK.is("ways", x.steady(-1), 2);
        CHECK.is("0 has", x.steady(0), 1);
        CHECK.is("1 has", x.steady(1), 0);
        CHECK.is("2 is left out", x.steady(2), 2);
        // 1 and 2 like each other above 0: 0 alone can be left out, whom it likes does not matter
        SharedCup y = Check.of(Check.people(3), "likes 0 099;likes 1 001;likes 2 010");
        CHECK.is("ways of these", y.steady(-1), 1);
        CHECK.is("0 is left out", y.steady(0), 0);
        CHECK.is("1 has 2", y.steady(1), 2);
    }

    /** "(PERSON 0 the least that can be, oneself ahead of all others, then 1, ..)" */
    private static void steadyFirst() {
        // 3 and 4 want each other; of 0, 1, 2 each may be left out
        SharedCup x = Check.of(Check.people(5), "likes 3 00009;likes 4 00090");
        CHECK.is("ways", x.steady(-1), 3);
        int[] due = {0, 2, 1, 4, 3};
        for (int person = 0; person < 5; person++) {
            CHECK.is("whom " + person + " has", x.steady(person), due[person]);
        }
        // 0 and 1 want each other; of 2, 3, 4 each may be left out: 2 is oneself ahead of the others
        SharedCup y = Check.of(Check.people(5), "likes 0 09000;likes 1 90000");
        int[] then = {1, 0, 2, 4, 3};
        for (int person = 0; person < 5; person++) {
            CHECK.is("whom " + person + " has then", y.steady(person), then[person]);
        }
    }

    /** "whom one has in the first such way ..; none" */
    private static void steadyNone() {
        SharedCup x = Check.of(Check.people(3), "likes 0 021;likes 1 102;likes 2 210");
        CHECK.is("no way", x.steady(-1), 0);
        for (int person = 0; person < 3; person++) {
            CHECK.is("whom " + person + " has", x.steady(person), -1);
        }
    }

    /** What was asked before does not count. */
    private static void steadyAskedAgain() {
        SharedCup x = Check.of(Check.people(4));
        CHECK.is("three ways", x.steady(-1), 3);
        CHECK.is("three ways again", x.steady(-1), 3);
        Check.house(x, "likes 0 0009;likes 3 9000");
        CHECK.is("0 has 3 then", x.steady(0), 3);
        CHECK.is("one way then", x.steady(-1), 1);
    }

    /** "IndexOutOfBoundsException: there is no such PERSON." */
    private static void steadyPeopleThatAreNone() {
        SharedCup x = eight();
        for (int none : WILD) {
            CHECK.index("steady(" + none + ")", () -> x.steady(none));
        }
        CHECK.index("steady(0) of nobody", () -> new SharedCup().steady(0));
    }

    /** "FONDEST: the greatest LIKING (of both for one another) of pairs together, two by two" */
    private static void fondestOfNoneAndOfAll() {
        CHECK.is("of nobody", new SharedCup().fondest(), 0);
        CHECK.is("of one", Check.of("person at 0;likes 0 9").fondest(), 0);
        CHECK.is("of eight who like nobody", eight().fondest(), 0);
        SharedCup x = eight("likes 0 99999999;likes 1 99999999;likes 2 99999999;likes 3 99999999",
            "likes 4 99999999;likes 5 99999999;likes 6 99999999;likes 7 99999999");
        CHECK.is("of eight who like all", x.fondest(), 72);
        CHECK.is("by the last two", eight("likes 6 00000001;likes 7 00000020").fondest(), 3);
        CHECK.is("by one alone", eight("likes 7 50000000").fondest(), 5);
    }

    /** "anybody left out that is better left out" */
    private static void fondestLeavesOut() {
        SharedCup x = Check.of(Check.people(4), "likes 0 0100;likes 1 0080;likes 2 0001");
        CHECK.is("the middle alone", x.fondest(), 8);
        Check.house(x, "likes 0 0500;likes 2 0004");
        CHECK.is("both ends", x.fondest(), 9);
        CHECK.is("0 with 2, 1 with 3", Check.of(Check.people(4), "likes 0 0090;likes 1 0009").fondest(), 18);
        CHECK.is("0 with 3, 1 with 2", Check.of(Check.people(4), "likes 0 0009;likes 1 0090").fondest(), 18);
        CHECK.is("of three the best two", Check.of(Check.people(3), "likes 0 012;likes 1 003").fondest(), 3);
    }

    /** "TOLD: the fewest PEOPLE so that of each SECRET one at least is among them" */
    private static void tellNobodyAndAllButOne() {
        CHECK.is("nobody", eight().tell(), 0);
        CHECK.is("of nobody", new SharedCup().tell(), 0);
        CHECK.is("all but the last", allBound().tell(), 127);
        CHECK.is("the WED need not", eight("wed 0 7;bond 0 7 9 till 9").tell(), 0);
        CHECK.is("what does not hold", eight("bond 0 7 9 till 9;day 9").tell(), 0);
        CHECK.is("of two one", Check.of(Check.people(2), "bond 0 1 9 till 9").tell(), 1);
    }

    /** "of several the least as bits" */
    private static void tellTheLeast() {
        CHECK.is("the lesser of the last two", eight("bond 6 7 1 till 9").tell(), 0b01000000);
        CHECK.is("one in the middle, however great", eight("bond 7 0 1 till 9;bond 7 1 1 till 9").tell(), 0b10000000);
        CHECK.is("a row of eight: 0, 2, 4 and 6, not 1, 3, 5 and 6", eight(ROW).tell(), 0b01010101);
        CHECK.is("three in a round", eight("bond 5 6 1 till 9;bond 6 7 1 till 9;bond 5 7 1 till 9").tell(), 0b01100000);
    }

    /** "BETWEEN two: the fewest steps from one to the other by BONDS that hold (0 for oneself); none." */
    private static void betweenOneselfAndNone() {
        SharedCup x = eight();
        for (int person = 0; person < 8; person++) {
            CHECK.is("oneself", x.between(person, person), 0);
            CHECK.is("another one", x.between(person, person ^ 1), -1);
        }
        for (int none : new int[] {-1, 8, Integer.MIN_VALUE, Integer.MAX_VALUE}) {
            CHECK.index("between(" + none + ", 0)", () -> x.between(none, 0));
            CHECK.index("between(0, " + none + ")", () -> x.between(0, none));
            CHECK.index("between both", () -> x.between(none, none));
        }
        SharedCup y = eight(ROW);
        for (int one = 0; one < 8; one++) {
            for (int other = 0; other < 8; other++) {
                CHECK.is("in a row", y.between(one, other), Math.abs(one - other));
            }
        }
        Check.house(y, "bond 0 7 1 till 9");
        CHECK.is("in a ring", y.between(0, 5), 3);
        CHECK.is("across a ring", y.between(0, 4), 4);
        CHECK.is("all bound", allBound().between(0, 7), 1);
        Check.house(y, "day 9");
        CHECK.is("what does not hold", y.between(0, 7), -1);
    }

    /** "HUB: the one who is BOUND to the most (of several the least; none without BONDS)." */
    private static void hubOfNoneAndOfSeveral() {
        CHECK.is("none", eight().hub(), -1);
        CHECK.is("of nobody", new SharedCup().hub(), -1);
        CHECK.is("what does not hold", eight("bond 6 7 9 till 9;day 9").hub(), -1);
        CHECK.is("of the last two", eight("bond 6 7 9 till 9").hub(), 6);
        CHECK.is("of all", allBound().hub(), 0);
        CHECK.is("of a row, whose ends have fewer", eight(ROW).hub(), 1);
        CHECK.is("by how many, not by how much", eight("bond 0 1 9 till 9;bond 7 5 1 till 9;bond 7 6 1 till 9").hub(), 7);
    }
}

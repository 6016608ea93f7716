/** Edges of promises 31 to 39: each method holds one sentence of the document. */
public final class EdgeSearchTest {
    private static final Check CHECK = new Check();
    private static final int[] NO_PERSON_OF_EIGHT = {-1, 8, 9, Integer.MIN_VALUE, Integer.MAX_VALUE};
    private static final int[] NO_ROOM = {-1, 6, 32, Integer.MIN_VALUE, Integer.MAX_VALUE};

    public static void main(String[] args) {
        noneMayBeTold();
        atMost36Bytes();
        eachThreeBytes();
        fromAboveTo();
        noSuchPerson();
        howManyOfARow();
        sureOfNoSet();
        lookWithFewerThanTwo();
        lookAtTheLeastOfSeveral();
        lookAtTheBest();
        tapeIsUsedUp();
        wayToEachRoom();
        wayOwnRoomIsNotLookedAt();
        wayRoundTheOtherSide();
        wayOfNone();
        wayBehindActs();
        unseenOfSeveral();
        unseenNone();
        trapOneToSix();
        trapOfNoSecret();
        trapOfAll();
        oathOfNobodyAndOfAll();
        shortestFromNoughtToSeven();
        alibiOfWhoMetNobodyElse();
        oddsFromNoughtTo81();
        peopleThatAreNone();
        CHECK.close();
    }

    private static SharedCup house(int people) {
        return people == 0 ? new SharedCup() : Check.of(Check.people(people));
    }

    private static int many(SharedCup x, int... rows) {
        Check.put(x, Check.bytes(rows));
        return x.drank(false);
    }

    private static int sure(SharedCup x, int... rows) {
        Check.put(x, Check.bytes(rows));
        return x.drank(true);
    }

    private static int look(SharedCup x, int... rows) {
        Check.put(x, Check.bytes(rows));
        return x.look();
    }

    private static void wrong(SharedCup x, int... rows) {
        String name = java.util.Arrays.toString(rows);
        CHECK.argument("drank of " + name, () -> many(x, rows));
        CHECK.no("the tape behind it", x.end(1));
        CHECK.argument("sure of " + name, () -> sure(x, rows));
        CHECK.no("the tape behind that", x.end(1));
        CHECK.argument("look of " + name, () -> look(x, rows));
        CHECK.no("the tape behind the look", x.end(1));
    }

    /** "none may be told": then all sets fit. */
    private static void noneMayBeTold() {
        for (int people = 0; people <= 8; people++) {
            SharedCup x = house(people);
            CHECK.is("sets of " + people, many(x), 1 << people);
            CHECK.is("SURE of " + people, sure(x), 0);
            CHECK.is("LOOK of " + people, look(x), people == 0 ? -1 : 0);
        }
    }

    private static int[] rows(int bytes) {
        int[] rows = new int[bytes];
        for (int at = 2; at < bytes; at += 3) {
            rows[at] = 1;
        }
        return rows;
    }

    /** "at most 36 bytes" */
    private static void atMost36Bytes() {
        SharedCup x = house(8);
        CHECK.is("33 bytes", many(x, rows(33)), 128);
        CHECK.is("36 bytes", many(x, rows(36)), 128);
        int[] last = rows(36);
        last[33] = 7;
        last[34] = 7;
        CHECK.is("the 12th row counts", many(x, last), 64);
        CHECK.is("the 12th row is sure", sure(x, last), 0b10000001);
        wrong(x, rows(37));
        wrong(x, rows(38));
        wrong(x, rows(39));
        wrong(x, rows(60));
        wrong(x, rows(399));
        wrong(x, rows(400));
    }

    /** "of each three bytes: from, to, how many" */
    private static void eachThreeBytes() {
        SharedCup x = house(8);
        for (int bytes = 1; bytes <= 36; bytes++) {
            if (bytes % 3 != 0) {
                wrong(x, rows(bytes));
            } else {
                CHECK.is(bytes + " bytes", many(x, rows(bytes)), 128);
            }
        }
    }

    /** "from is above to" */
    private static void fromAboveTo() {
        SharedCup x = house(8);
        CHECK.is("from 7 to 7", many(x, 7, 7, 0), 128);
        CHECK.is("from 0 to 0", many(x, 0, 0, 0), 128);
        CHECK.is("from 0 to 7", many(x, 0, 7, 0), 1);
        wrong(x, 7, 6, 0);
        wrong(x, 1, 0, 0);
        wrong(x, 0, 7, 0, 1, 0, 0);
        wrong(x, 255, 0, 0);
    }

    /** "there is no such PERSON" */
    private static void noSuchPerson() {
        for (int people = 0; people <= 8; people++) {
            SharedCup x = house(people);
            wrong(x, people, people, 0);
            wrong(x, 0, people, 0);
            wrong(x, 0, 255, 0);
            wrong(x, 255, 255, 0);
            wrong(x, 0, 128, 0);
        }
        wrong(house(2), 0, 1, 1, 1, 2, 1);
    }

    /** "how many of them drank of a cup" */
    private static void howManyOfARow() {
        SharedCup x = house(8);
        int[] due = {1, 8, 28, 56, 70, 56, 28, 8, 1, 0};
        for (int many = 0; many < due.length; many++) {
            CHECK.is(many + " of eight", many(x, 0, 7, many), due[many]);
        }
        CHECK.is("255 of eight", many(x, 0, 7, 255), 0);
        CHECK.is("both too", many(x, 2, 5, 4), 16);
        CHECK.is("both are sure", sure(x, 2, 5, 4), 0b00111100);
        CHECK.is("all are sure", sure(x, 0, 7, 8), 255);
        CHECK.is("none of them", sure(x, 0, 7, 0), 0);
    }

    /** "SURE: those in all, as bits (0 without)" */
    private static void sureOfNoSet() {
        SharedCup x = house(3);
        CHECK.is("no set", many(x, 0, 2, 4), 0);
        CHECK.is("sure of nobody", sure(x, 0, 2, 4), 0);
        CHECK.is("no set by two rows", many(x, 0, 0, 1, 0, 0, 0), 0);
        CHECK.is("sure of nobody then", sure(x, 0, 0, 1, 0, 0, 0), 0);
        CHECK.is("one set", sure(x, 0, 2, 3), 7);
    }

    /** "none with fewer than two" */
    private static void lookWithFewerThanTwo() {
        SharedCup x = house(3);
        CHECK.is("no set", look(x, 0, 2, 4), -1);
        CHECK.is("one set of all", look(x, 0, 2, 3), -1);
        CHECK.is("one set of nobody", look(x, 0, 2, 0), -1);
        CHECK.is("two sets", look(x, 0, 1, 2), 2);
        CHECK.is("of nobody", look(house(0)), -1);
    }

    /** "(of several the least ..)" */
    private static void lookAtTheLeastOfSeveral() {
        SharedCup x = house(8);
        CHECK.is("all part alike", look(x, 0, 7, 1), 0);
        CHECK.is("all part in halves", look(x, 0, 7, 4), 0);
        CHECK.is("but for 0, who is in", look(x, 0, 0, 1), 1);
        CHECK.is("but for 0 to 6, who are out", look(x, 0, 6, 0), 7);
    }

    /** "the one by whom these are parted (in, or not) so that the greater part is the least" */
    private static void lookAtTheBest() {
        SharedCup x = house(8);
        CHECK.is("3 parts in halves, one of 0 to 2 in thirds", look(x, 0, 2, 1), 3);
        CHECK.is("in by three of four is as out", look(x, 0, 3, 3, 4, 7, 4), 0);
        CHECK.is("two of five, two of three", look(x, 0, 4, 2, 5, 7, 3), 0);
        CHECK.is("the part that is out may be the greater", look(x, 0, 3, 1, 4, 5, 1, 6, 7, 0), 4);
    }

    /** "Uses the TAPE up" */
    private static void tapeIsUsedUp() {
        SharedCup x = house(2);
        CHECK.is("drank", many(x, 0, 1, 1), 2);
        CHECK.no("nothing is left", x.end(1));
        CHECK.is("so there is nothing told", x.drank(false), 4);
        CHECK.is("look", look(x, 0, 0, 1), 1);
        CHECK.no("nothing is left", x.end(1));
        CHECK.is("so there is nothing told", x.look(), 0);
        CHECK.is("neither is an act", x.count(12), 0);
    }

    private static SharedCup at(int room, String flour) {
        SharedCup x = Check.of("person at " + room + ";person at 0");
        if (!flour.isEmpty()) {
            Check.house(x, "flour " + flour);
        }
        return x;
    }

    /** "WAY of one to a ROOM: the fewest steps round", where 5 and 0 are beside one another. */
    private static void wayToEachRoom() {
        for (int from = 0; from <= 5; from++) {
            SharedCup x = at(from, "");
            for (int to = 0; to <= 5; to++) {
                int apart = Math.abs(from - to);
                CHECK.is("from " + from + " to " + to, x.way(0, to), Math.min(apart, 6 - apart));
            }
            for (int none : NO_ROOM) {
                CHECK.index("to " + none, () -> x.way(0, none));
            }
        }
    }

    /** "(its own ROOM not looked at, the last one is)" */
    private static void wayOwnRoomIsNotLookedAt() {
        CHECK.is("FLOUR in one's own", at(0, "a").way(0, 3), 3);
        CHECK.is("one stays in it", at(0, "a").way(0, 0), 0);
        CHECK.is("FLOUR all about: one stays", at(5, "abcdef").way(0, 5), 0);
        CHECK.is("FLOUR all about: one goes nowhere", at(5, "abcdef").way(0, 0), -1);
        CHECK.is("FLOUR in the last one", at(0, "b").way(0, 1), -1);
        CHECK.is("FLOUR in the last one, from both sides", at(0, "d").way(0, 3), -1);
        CHECK.is("FLOUR beside the last one", at(0, "c").way(0, 1), 1);
    }

    private static void wayRoundTheOtherSide() {
        CHECK.is("2 steps are 4", at(0, "b").way(0, 2), 4);
        CHECK.is("3 steps are 3", at(0, "b").way(0, 3), 3);
        CHECK.is("3 steps the other side", at(0, "f").way(0, 3), 3);
        CHECK.is("over 5 and 0", at(4, "f").way(0, 0), 4);
        CHECK.is("over 0 and 5", at(1, "a").way(0, 5), 4);
        CHECK.is("over 0 and 5 the short way", at(1, "c").way(0, 5), 2);
    }

    /** ".. by ROOMS without FLOUR ..; none" */
    private static void wayOfNone() {
        CHECK.is("shut from both sides", at(0, "bf").way(0, 3), -1);
        CHECK.is("shut farther off", at(0, "ce").way(0, 3), -1);
        CHECK.is("shut farther off, but not so far", at(0, "ce").way(0, 5), 1);
        CHECK.is("shut on one side alone", at(0, "bc").way(0, 3), 3);
    }

    /** Acts count, and those that are undone do not. */
    private static void wayBehindActs() {
        SharedCup x = atBoth(0, 0, "");
        x.go(0, 4);
        CHECK.is("where one went", x.way(0, 4), 0);
        CHECK.is("from there", x.way(0, 1), 3);
        CHECK.is("all ROOMS between are as good", x.unseen(0, 1), 0);
        x.go(1, 4);
        CHECK.is("where both went", x.unseen(0, 1), 4);
        x.strew(4, true);
        CHECK.is("beside it", x.unseen(1, 0), 3);
        x.undo();
        x.undo();
        x.undo();
        CHECK.is("where both were", x.unseen(0, 1), 0);
        CHECK.is("where one was", x.way(0, 0), 0);
    }

    private static SharedCup atBoth(int one, int other, String flour) {
        SharedCup x = Check.of("person at " + one + ";person at " + other);
        if (!flour.isEmpty()) {
            Check.house(x, "flour " + flour);
        }
        return x;
    }

    /** "UNSEEN for two: the ROOM without FLOUR for which both WAYS together are the least (of several the least)" */
    private static void unseenOfSeveral() {
        CHECK.is("where both are", atBoth(5, 5, "").unseen(0, 1), 5);
        CHECK.is("the least between", atBoth(2, 4, "").unseen(0, 1), 2);
        CHECK.is("all ROOMS are as good", atBoth(5, 2, "").unseen(0, 1), 0);
        CHECK.is("over 5 and 0", atBoth(5, 1, "").unseen(0, 1), 0);
        CHECK.is("not where there is FLOUR", atBoth(2, 4, "c").unseen(0, 1), 3);
        CHECK.is("nor where both are", atBoth(3, 3, "d").unseen(0, 1), 2);
        CHECK.is("the only one without", atBoth(3, 5, "abcdf").unseen(0, 1), 4);
        CHECK.is("the other way round", atBoth(0, 2, "b").unseen(0, 1), 0);
        CHECK.is("turned", atBoth(0, 2, "b").unseen(1, 0), 0);
    }

    private static void unseenNone() {
        CHECK.is("FLOUR all about", atBoth(3, 3, "abcdef").unseen(0, 1), -1);
        CHECK.is("shut in together: where both are", atBoth(0, 0, "bcef").unseen(0, 1), 0);
        CHECK.is("the only one without, out of reach", atBoth(0, 0, "abcef").unseen(0, 1), -1);
        CHECK.is("within reach of one alone", atBoth(0, 2, "abcef").unseen(0, 1), -1);
        CHECK.is("both are shut in apart", atBoth(0, 3, "bcef").unseen(0, 1), -1);
    }

    /** "TRAP of K ROOMS (1 to 6)" */
    private static void trapOneToSix() {
        SharedCup x = Check.of("person at 5;person at 5", "bond 0 1 1 till 9");
        int[] due = {0b100000, 0b100001, 0b100011, 0b100111, 0b101111, 0b111111};
        for (int k = 1; k <= 6; k++) {
            CHECK.is("trap(" + k + ", false)", x.trap(k, false), due[k - 1]);
            CHECK.is("trap(" + k + ", true)", x.trap(k, true), 1);
        }
        for (int none : new int[] {0, 7, -1, Integer.MIN_VALUE, Integer.MAX_VALUE}) {
            CHECK.argument("trap(" + none + ", false)", () -> x.trap(none, false));
            CHECK.argument("trap(" + none + ", true)", () -> x.trap(none, true));
        }
    }

    /** "of several the least as bits; how many that is" */
    private static void trapOfNoSecret() {
        for (int k = 1; k <= 6; k++) {
            CHECK.is("of nobody", house(0).trap(k, false), (1 << k) - 1);
            CHECK.is("of nobody, how many", house(0).trap(k, true), 0);
            CHECK.is("of the unbound", house(8).trap(k, true), 0);
        }
        CHECK.is("not in one ROOM", Check.of("person at 0;person at 5;bond 0 1 1 till 9").trap(6, true), 0);
        CHECK.is("WED", Check.of("person at 5;person at 5;wed 0 1;bond 0 1 1 till 9").trap(1, false), 1);
        CHECK.is("does not hold", Check.of("person at 5;person at 5;bond 0 1 1 till 9;day 9").trap(1, false), 1);
    }

    /** "the set of so many in which the most SECRETS are in one ROOM of it now" */
    private static void trapOfAll() {
        SharedCup x = house(8);
        x.share(255, 0);
        CHECK.is("all in one ROOM", x.trap(1, true), 28);
        CHECK.is("FLOUR does not matter", x.strew(0, true) ? x.trap(1, false) : -2, 1);
        for (int person = 0; person < 3; person++) {
            x.go(person, 4);
        }
        CHECK.is("the greater part", x.trap(1, false), 0b000001);
        CHECK.is("10 of five", x.trap(1, true), 10);
        CHECK.is("both", x.trap(2, false), 0b010001);
        CHECK.is("13 of both", x.trap(2, true), 13);
    }

    /** "OATH of one and a set: whether all whom one MET are of it." */
    private static void oathOfNobodyAndOfAll() {
        SharedCup x = house(8);
        CHECK.yes("who met nobody", x.oath(7, 0));
        x.days(1);
        for (int person = 0; person < 8; person++) {
            CHECK.yes("all the others", x.oath(person, 255 ^ 1 << person));
            CHECK.yes("all", x.oath(person, -1));
            CHECK.no("nobody", x.oath(person, 0));
            CHECK.no("all but one", x.oath(person, 255 ^ 1 << (person + 1) % 8));
            CHECK.no("some who are none", x.oath(person, ~255));
        }
    }

    /** "SHORTEST OATH: how many one MET." */
    private static void shortestFromNoughtToSeven() {
        SharedCup x = Check.of("person at 0;person at 1;person at 1;person at 1;person at 1;person at 1;person at 1;person at 1");
        CHECK.is("at first", x.shortest(0), 0);
        x.days(1);
        CHECK.is("nobody", x.shortest(0), 0);
        CHECK.is("six", x.shortest(7), 6);
        x.go(0, 1);
        x.days(1);
        CHECK.is("seven", x.shortest(0), 7);
        x.days(60);
        CHECK.is("nobody twice", x.shortest(7), 7);
    }

    /** "ALIBI: those whom one MET and who did not meet anybody else, as bits." */
    private static void alibiOfWhoMetNobodyElse() {
        SharedCup x = Check.of("person at 0;person at 1;person at 2;person at 3;person at 4;person at 5;person at 5;person at 4");
        CHECK.is("at first", x.alibi(7), 0);
        x.days(1);
        CHECK.is("0, who met nobody", x.alibi(0), 0);
        CHECK.is("5 has 6", x.alibi(5), 0b01000000);
        CHECK.is("7 has 4", x.alibi(7), 0b00010000);
        x.go(7, 5);
        x.days(1);
        CHECK.is("4 met 7, who met others", x.alibi(4), 0);
        CHECK.is("7 has 4 still", x.alibi(7), 0b00010000);
        CHECK.is("5 and 6 met 7, too", x.alibi(5), 0);
        // one goes about to each of the others
        SharedCup y = Check.of("person at 0;person at 1;person at 2;person at 3;person at 4;person at 5");
        for (int room = 1; room <= 5; room++) {
            y.go(0, room);
            y.days(1);
        }
        CHECK.is("all of them", y.alibi(0), 0b111110);
        CHECK.is("none of the others", y.alibi(1), 0);
        SharedCup z = Check.of("person at 0;person at 0;person at 3");
        z.days(1);
        CHECK.is("0 for 1", z.alibi(1), 0b001);
        CHECK.is("1 for 0", z.alibi(0), 0b010);
        z.undo();
        CHECK.is("undone", z.alibi(1), 0);
    }

    /** "ODDS of two: in how many of 100 both go to their MOST (.. 0, if one is not bound)" */
    private static void oddsFromNoughtTo81() {
        SharedCup x = Check.of(Check.people(4), "bond 0 1 9 till 5");
        CHECK.is("9 and 9", x.odds(0, 1), 81);
        CHECK.is("9 and none", x.odds(0, 2), 0);
        CHECK.is("none and 9", x.odds(2, 1), 0);
        CHECK.is("none and none", x.odds(3, 2), 0);
        Check.house(x, "bond 2 3 1 till 9");
        CHECK.is("1 and 1", x.odds(2, 3), 1);
        CHECK.is("9 and 1, each to its own", x.odds(0, 3), 9);
        Check.house(x, "day 5");
        CHECK.is("what does not hold", x.odds(0, 1), 0);
        x.share(3, 2);
        CHECK.is("behind a CUP", x.odds(0, 1), 81);
        x.wash(0, 1);
        CHECK.is("washed off", x.odds(0, 1), 0);
        x.undo();
        CHECK.is("that undone", x.odds(0, 1), 81);
    }

    /** "IndexOutOfBoundsException: there is no such PERSON", told ahead of "both are one" */
    private static void peopleThatAreNone() {
        SharedCup x = house(8);
        for (int none : NO_PERSON_OF_EIGHT) {
            CHECK.index("way", () -> x.way(none, 0));
            CHECK.index("way nowhere", () -> x.way(none, 6));
            CHECK.index("oath", () -> x.oath(none, 0));
            CHECK.index("shortest", () -> x.shortest(none));
            CHECK.index("alibi", () -> x.alibi(none));
            for (int other : new int[] {0, none}) {
                CHECK.index("unseen", () -> x.unseen(none, other));
                CHECK.index("unseen", () -> x.unseen(other, none));
                CHECK.index("odds", () -> x.odds(none, other));
                CHECK.index("odds", () -> x.odds(other, none));
            }
        }
        for (int person : new int[] {0, 7}) {
            CHECK.argument("unseen, both are one", () -> x.unseen(person, person));
            CHECK.argument("odds, both are one", () -> x.odds(person, person));
        }
    }
}

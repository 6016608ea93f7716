/** Promises 31 to 39: who drank, ways past flour, traps, oaths and odds. */
public final class SearchTest {
    private static final Check CHECK = new Check();

    public static void main(String[] args) {
        drank();
        drankWrongly();
        way();
        unseen();
        trap();
        oaths();
        odds();
        CHECK.close();
    }

    private static int many(SharedCup x, int... rows) {
        Check.put(x, Check.bytes(rows));
        return x.drank(false);
    }

    private static int sure(SharedCup x, int... rows) {
        Check.put(x, Check.bytes(rows));
        return x.drank(true);
    }

    private static int look(SharedCup x, int... rows) {
        Check.put(x, Check.bytes(rows));
        return x.look();
    }

    private static void drank() {
        SharedCup x = Check.of("person at 0;person at 0;person at 0;person at 0");
        CHECK.is("none told", many(x), 16);
        CHECK.is("none sure", sure(x), 0);
        CHECK.is("look at the least", look(x), 0);
        CHECK.is("two of all", many(x, 0, 3, 2), 6);
        CHECK.is("two of all, one of the first two", many(x, 0, 3, 2, 0, 1, 1), 4);
        CHECK.is("two of all, none of the first", many(x, 0, 3, 2, 0, 0, 0), 3);
        CHECK.is("look behind that: 1 parts 1 and 2", look(x, 0, 3, 2, 0, 0, 0), 1);
        CHECK.is("three of all, both of the first two", sure(x, 0, 3, 3, 0, 1, 2), 0b0011);
        CHECK.is("look behind that", look(x, 0, 3, 3, 0, 1, 2), 2);
        CHECK.is("all of them", sure(x, 0, 3, 4), 0b1111);
        CHECK.is("all of them is one set", many(x, 0, 3, 4), 1);
        CHECK.is("so there is none to look at", look(x, 0, 3, 4), -1);
        CHECK.is("what cannot be", many(x, 0, 3, 1, 0, 1, 2), 0);
        CHECK.is("sure of nothing", sure(x, 0, 3, 1, 0, 1, 2), 0);
        CHECK.is("look at none", look(x, 0, 3, 1, 0, 1, 2), -1);
        CHECK.is("more than there are", many(x, 2, 3, 255), 0);
        CHECK.is("one alone", sure(x, 3, 3, 1), 0b1000);
        CHECK.is("two sets", many(x, 0, 0, 1, 1, 1, 0, 2, 3, 1), 2);
        CHECK.is("parted by 2", look(x, 0, 0, 1, 1, 1, 0, 2, 3, 1), 2);
        CHECK.is("one of all: each parts 1 and 3", look(x, 0, 3, 1), 0);
        CHECK.is("one of the last three: 0 parts in halves", look(x, 1, 3, 1), 0);
        CHECK.is("12 rows", many(x, 0, 0, 1, 0, 0, 1, 0, 0, 1, 0, 0, 1, 0, 0, 1, 0, 0, 1, 0, 0, 1, 0, 0, 1, 0, 0, 1,
            0, 0, 1, 0, 0, 1, 1, 1, 1), 4);
        CHECK.is("the tape is used up", x.feed(0, 0, 0, 0, 0), 20);
    }

    private static void drankWrongly() {
        SharedCup x = Check.of("person at 0;person at 0;person at 0;person at 0");
        int[][] wrong = {{0}, {0, 0}, {0, 0, 0, 0}, {0, 4, 1}, {4, 4, 1}, {2, 1, 1}, {1, 0, 0}, {0, 255, 0}, {255, 255, 0},
            {0, 0, 1, 3, 2, 0}, new int[39]};
        for (int[] rows : wrong) {
            CHECK.argument("drank of " + rows.length, () -> many(x, rows));
            CHECK.is("used up", x.feed(0, 0, 0, 0, 0), 20);
            CHECK.argument("sure of " + rows.length, () -> sure(x, rows));
            CHECK.argument("look of " + rows.length, () -> look(x, rows));
            CHECK.is("used up", x.feed(0, 0, 0, 0, 0), 20);
        }
        CHECK.argument("of nobody", () -> many(new SharedCup(), 0, 0, 0));
    }

    private static void way() {
        SharedCup x = Check.of("person at 0;person at 3");
        int[] steps = {0, 1, 2, 3, 2, 1};
        for (int room = 0; room < 6; room++) {
            CHECK.is("way(0, " + room + ")", x.way(0, room), steps[room]);
        }
        Check.house(x, "flour b");
        CHECK.is("to FLOUR", x.way(0, 1), -1);
        CHECK.is("round the other way", x.way(0, 2), 4);
        CHECK.is("the short way", x.way(0, 4), 2);
        Check.house(x, "flour ad");
        CHECK.is("its own ROOM is not looked at", x.way(0, 2), 2);
        CHECK.is("nor when one stays", x.way(0, 0), 0);
        CHECK.is("the last one is", x.way(1, 0), -1);
        Check.house(x, "flour bf");
        CHECK.is("shut in", x.way(0, 3), -1);
        CHECK.is("shut in: 3 may go about", x.way(1, 4), 1);
        CHECK.is("shut in: 3 may not to 0", x.way(1, 0), -1);
        CHECK.index("way(2, 0)", () -> x.way(2, 0));
        CHECK.index("way(0, 6)", () -> x.way(0, 6));
        CHECK.index("way(0, -1)", () -> x.way(0, -1));
    }

    private static void unseen() {
        SharedCup x = Check.of("person at 1;person at 3;person at 1");
        CHECK.is("of several the least", x.unseen(0, 1), 1);
        CHECK.is("in the ROOM where both are", x.unseen(0, 2), 1);
        Check.house(x, "flour b");
        CHECK.is("not in FLOUR", x.unseen(0, 1), 2);
        CHECK.is("not in FLOUR, where both are", x.unseen(0, 2), 0);
        Check.house(x, "flour ac");
        CHECK.is("1 is shut in", x.unseen(0, 1), -1);
        CHECK.is("1 with another there", x.unseen(2, 0), 1);
        Check.house(x, "flour abcdef");
        CHECK.is("FLOUR all about", x.unseen(0, 2), -1);
        CHECK.argument("unseen(0, 0)", () -> x.unseen(0, 0));
        CHECK.index("unseen(0, 3)", () -> x.unseen(0, 3));
        CHECK.index("unseen(3, 3)", () -> x.unseen(3, 3));
    }

    private static void trap() {
        SharedCup x = Check.of("person at 2;person at 2;person at 2;person at 5;person at 5;person at 1;wed 0 1",
            "bond 0 1 1 till 9;bond 0 2 1 till 9;bond 1 2 1 till 9;bond 3 4 1 till 9;bond 4 5 1 till 9");
        CHECK.is("trap(1)", x.trap(1, false), 0b000100);
        CHECK.is("how many", x.trap(1, true), 2);
        CHECK.is("trap(2)", x.trap(2, false), 0b100100);
        CHECK.is("how many of two", x.trap(2, true), 3);
        CHECK.is("trap(3): the least of several", x.trap(3, false), 0b100101);
        CHECK.is("how many of three", x.trap(3, true), 3);
        CHECK.is("trap(6)", x.trap(6, false), 63);
        CHECK.is("how many of all", x.trap(6, true), 3);
        Check.house(x, "day 9");
        CHECK.is("without SECRETS", x.trap(4, false), 15);
        CHECK.is("none", x.trap(4, true), 0);
        CHECK.argument("trap(0)", () -> x.trap(0, false));
        CHECK.argument("trap(7)", () -> x.trap(7, true));
        CHECK.argument("trap(-1)", () -> x.trap(-1, true));
    }

    private static void oaths() {
        SharedCup x = Check.of("person at 0;person at 0;person at 1;person at 1;person at 1;person at 2");
        x.days(1);
        CHECK.is("SHORTEST of 0", x.shortest(0), 1);
        CHECK.is("SHORTEST of 3", x.shortest(3), 2);
        CHECK.is("SHORTEST of 5", x.shortest(5), 0);
        CHECK.yes("OATH", x.oath(3, 0b10100));
        CHECK.yes("OATH with more", x.oath(3, -1));
        CHECK.no("OATH with fewer", x.oath(3, 0b10000));
        CHECK.no("OATH without oneself is none of it", x.oath(3, 0b01000));
        CHECK.yes("OATH of nobody", x.oath(5, 0));
        CHECK.no("OATH of those who are none", x.oath(0, 0x7fffffc0));
        CHECK.is("ALIBI of 0", x.alibi(0), 0b10);
        CHECK.is("ALIBI of 2: each met another one, too", x.alibi(2), 0);
        CHECK.is("ALIBI of 5", x.alibi(5), 0);
        x.go(0, 2);
        x.days(1);
        CHECK.is("0 met 1 before, and 5", x.person(0, 3), 0b100010);
        CHECK.is("ALIBI of 0, both", x.alibi(0), 0b100010);
        CHECK.is("ALIBI of 1: 0 met another one", x.alibi(1), 0);
        CHECK.index("oath(6, 0)", () -> x.oath(6, 0));
        CHECK.index("oath(-1, 0)", () -> x.oath(-1, 0));
        CHECK.index("shortest(6)", () -> x.shortest(6));
        CHECK.index("alibi(6)", () -> x.alibi(6));
        CHECK.index("alibi(-1)", () -> x.alibi(-1));
    }

    private static void odds() {
        SharedCup x = Check.of("person at 0;person at 0;person at 0;person at 0;bond 0 1 3 till 9;bond 1 2 8 till 5");
        CHECK.is("odds(0, 1): each to its MOST", x.odds(0, 1), 24);
        CHECK.is("odds(1, 2)", x.odds(1, 2), 64);
        CHECK.is("odds(0, 2)", x.odds(0, 2), 24);
        CHECK.is("odds(0, 3)", x.odds(0, 3), 0);
        Check.house(x, "day 5");
        CHECK.is("odds(0, 1) later", x.odds(1, 0), 9);
        CHECK.is("odds(1, 2) later", x.odds(1, 2), 0);
        CHECK.argument("odds(0, 0)", () -> x.odds(0, 0));
        CHECK.index("odds(0, 4)", () -> x.odds(0, 4));
        CHECK.index("odds(4, 4)", () -> x.odds(4, 4));
    }
}

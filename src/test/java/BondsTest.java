/** Promises 18 to 30: circles, ends, cups that would bind, liking in pairs, who must be told, who stands between. */
public final class BondsTest {
    private static final Check CHECK = new Check();

    public static void main(String[] args) {
        circlesAndEnds();
        secretsAndTell();
        would();
        widest();
        parts();
        lovers();
        steady();
        steadyOfFewAndMany();
        fondest();
        betweenAndHub();
        CHECK.close();
    }

    private static void circlesAndEnds() {
        SharedCup x = Check.of(Check.people(7), "bond 0 1 1 till 10;bond 1 2 1 till 20;bond 3 4 9 till 15;bond 5 6 1 till 5");
        CHECK.is("circles()", x.circles(), 3);
        CHECK.is("ends()", x.ends(), 20);
        CHECK.is("free(0)", x.free(0), 0);
        CHECK.is("free(4)", x.free(4), 0);
        CHECK.is("free(5)", x.free(5), 0b1100000);
        CHECK.is("free(10)", x.free(10), 0b1100001);
        CHECK.is("free(19)", x.free(19), 0b1111001);
        CHECK.is("free(20)", x.free(20), 0b1111111);
        CHECK.is("free(9999)", x.free(9999), 0b1111111);
        CHECK.argument("free(-1)", () -> x.free(-1));
        CHECK.argument("free(10000)", () -> x.free(10000));
        CHECK.is("BONDS", x.count(9), 4);
        Check.house(x, "day 12");
        CHECK.is("circles() on DAY 12", x.circles(), 2);
        CHECK.is("ends() on DAY 12", x.ends(), 20);
        CHECK.is("BONDS on DAY 12", x.count(9), 2);
        CHECK.is("free(4): as BONDS and TILL are, also of a DAY that is over", x.free(4), 0);
        Check.house(x, "day 30");
        CHECK.is("ends() is now without any", x.ends(), 30);
        CHECK.is("circles() without any", x.circles(), 0);
        x.wash(0, 1);
        CHECK.is("free(4) of what was washed off", x.free(4), 1);
    }

    private static void secretsAndTell() {
        SharedCup x = Check.of(Check.people(5), "wed 0 1;bond 0 1 3 till 9;bond 1 2 3 till 9;bond 2 3 3 till 9;bond 3 4 3 till 9");
        CHECK.is("secrets()", x.secrets(), 3);
        CHECK.is("tell(): 1 and 3, less than 2 and 3, 2 and 4", x.tell(), 0b01010);
        x.wed(2, 3);
        CHECK.is("secrets() of the WED", x.secrets(), 2);
        CHECK.is("tell() of two that share none: the least", x.tell(), 0b01010);
        x.wash(1, 2);
        CHECK.is("tell() of one", x.tell(), 0b01000);
        x.wash(3, 4);
        CHECK.is("tell() of none", x.tell(), 0);
        CHECK.is("secrets() of none", x.secrets(), 0);
        SharedCup y = Check.of(Check.people(8));
        y.share(255, 0);
        CHECK.is("secrets() of all", y.secrets(), 28);
        CHECK.is("tell() of all but one", y.tell(), 127);
        SharedCup z = Check.of(Check.people(4), "bond 3 0 1 till 9;bond 3 1 1 till 9;bond 3 2 1 till 9");
        CHECK.is("tell() of one in the middle", z.tell(), 8);
    }

    private static void would() {
        SharedCup x = Check.of(Check.people(4), "lasts 10;bond 0 1 9 till 30;bond 1 2 5 till 10;bond 2 3 4 till 10");
        CHECK.is("would(15, 0): 0 2, 0 3, 1 3 and 2 3", x.would(15, 0), 4);
        CHECK.is("would(15, 1): 2 is less than those that hold", x.would(15, 1), 3);
        CHECK.is("would(15, 2)", x.would(15, 2), 5);
        CHECK.is("would(15, 3)", x.would(15, 3), 0);
        CHECK.is("would(6, 0)", x.would(6, 0), 0);
        CHECK.is("nothing stays", x.bond(0, 2, false), 0);
        CHECK.is("no act", x.count(12), 0);
        CHECK.is("share is the same", x.share(15, 2), 5);
        CHECK.is("bits of none", x.would(0xfff0 | 3, 0), 0);
        CHECK.argument("would(1, 0)", () -> x.would(1, 0));
        CHECK.argument("would(16, 0)", () -> x.would(16 | 2, 0));
        CHECK.argument("would(3, 4)", () -> x.would(3, 4));
        CHECK.argument("would(3, -1)", () -> x.would(3, -1));
    }

    private static void widest() {
        SharedCup x = Check.of(Check.people(4), "bond 0 1 1 till 9;bond 0 2 1 till 9;bond 1 2 1 till 9");
        CHECK.is("widest(0, 2)", x.widest(0, 2), 0b1001);
        CHECK.is("widest(0, 3)", x.widest(0, 3), 0b1011);
        CHECK.is("widest(0, 4)", x.widest(0, 4), 0b1111);
        CHECK.is("widest(0, 5)", x.widest(0, 5), -1);
        CHECK.is("widest(3, 3): none binds", x.widest(3, 3), 0b0111);
        CHECK.argument("widest(4, 2)", () -> x.widest(4, 2));
        CHECK.argument("widest(-1, 2)", () -> x.widest(-1, 2));
        CHECK.argument("widest(0, 1)", () -> x.widest(0, 1));
        CHECK.argument("widest(0, 9)", () -> x.widest(0, 9));
        Check.house(x, "binds 1");
        Check.law(x, "bind 1 if one > 1");
        CHECK.is("half of 2 binds, half of 1 does not", x.widest(1, 2), 0b1100);
        Check.law(x, "bind 1 if one > 1 and many < 3");
        CHECK.is("nobody by three", x.widest(1, 3), 0b0111);
    }

    private static void parts() {
        SharedCup x = Check.of(Check.people(6), "bond 0 1 1 till 9;bond 0 2 1 till 9;bond 1 3 1 till 9;bond 2 3 1 till 9;bond 1 2 1 till 9;bond 3 4 1 till 9");
        CHECK.is("parts(0, 3)", x.parts(0, 3), 2);
        CHECK.is("parts(1, 2)", x.parts(1, 2), 3);
        CHECK.is("parts(4, 0)", x.parts(4, 0), 1);
        CHECK.is("parts(0, 5)", x.parts(0, 5), 0);
        CHECK.argument("parts(0, 0)", () -> x.parts(0, 0));
        CHECK.index("parts(0, 6)", () -> x.parts(0, 6));
        CHECK.index("parts(6, 6)", () -> x.parts(6, 6));
        SharedCup y = Check.of(Check.people(8));
        y.share(255, 0);
        CHECK.is("parts(0, 7) of all", y.parts(0, 7), 7);
        y.wash(3, 7);
        CHECK.is("without one", y.parts(0, 7), 6);
    }

    private static void lovers() {
        SharedCup x = Check.of(Check.people(4), "likes 0 0153;likes 1 1012;likes 2 5000;likes 3 2900");
        CHECK.is("lovers(false): 0 1, 0 2, 0 3, 1 3", x.lovers(false), 4);
        CHECK.is("lovers(true)", x.lovers(true), 1);
        Check.house(x, "bond 0 1 1 till 9");
        CHECK.is("0 is glad by more than 1, 1 by more than 1", x.lovers(false), 3);
        CHECK.is("the first", x.lovers(true), 2);
        Check.house(x, "bond 0 2 5 till 9");
        CHECK.is("0 is glad by none but 2; 1 and 3", x.lovers(false), 1);
        CHECK.is("the first then", x.lovers(true), 13);
        Check.house(x, "bond 1 3 9 till 9");
        CHECK.is("none", x.lovers(false), 0);
        CHECK.is("the first of none", x.lovers(true), -1);
    }

    private static void steady() {
        // each of 0, 1, 2 likes the next one best, and all of them 3 the least: whoever has 3 is left
        SharedCup x = Check.of(Check.people(4), "likes 0 0920;likes 1 2090;likes 2 9200;likes 3 5550");
        CHECK.is("no way is steady", x.steady(-1), 0);
        CHECK.is("whom 0 has", x.steady(0), -1);
        // two ways: 0 1 with 2 3, where 0 and 2 have their best, and 0 3 with 1 2, where 1 and 3 do
        SharedCup y = Check.of(Check.people(4), "likes 0 0915;likes 1 5091;likes 2 1509;likes 3 9150");
        CHECK.is("two ways", y.steady(-1), 2);
        CHECK.is("0 has the least", y.steady(0), 1);
        CHECK.is("1 has", y.steady(1), 0);
        CHECK.is("2 has", y.steady(2), 3);
        CHECK.is("3 has", y.steady(3), 2);
        CHECK.index("steady(4)", () -> y.steady(4));
        CHECK.index("steady(-2)", () -> y.steady(-2));
    }

    private static void steadyOfFewAndMany() {
        SharedCup one = Check.of(Check.people(1));
        CHECK.is("one alone: a way", one.steady(-1), 1);
        CHECK.is("has oneself", one.steady(0), 0);
        SharedCup three = Check.of(Check.people(3));
        CHECK.is("three who like nobody: each way, as 0 is not more than 0", three.steady(-1), 3);
        CHECK.is("0 is left out in the first", three.steady(0), 0);
        CHECK.is("1 has 2", three.steady(1), 2);
        CHECK.is("2 has 1", three.steady(2), 1);
        Check.house(three, "likes 0 010;likes 1 100");
        CHECK.is("0 and 1 like one another", three.steady(-1), 1);
        CHECK.is("2 is left out", three.steady(2), 2);
        Check.house(three, "likes 2 990;likes 0 001");
        CHECK.is("0 and 2 as well: 1 does not matter", three.steady(0), 2);
        CHECK.is("of these one", three.steady(-1), 1);
        SharedCup eight = Check.of(Check.people(8));
        CHECK.is("all ways of eight", eight.steady(-1), 105);
        CHECK.is("the first: 0 with 1", eight.steady(0), 1);
        CHECK.is("the first: 6 with 7", eight.steady(6), 7);
        SharedCup seven = Check.of(Check.people(7));
        CHECK.is("all ways of seven", seven.steady(-1), 105);
        CHECK.is("the first: 0 alone", seven.steady(0), 0);
        CHECK.is("the first: 2 with 1", seven.steady(2), 1);
    }

    private static void fondest() {
        SharedCup x = Check.of(Check.people(4), "likes 0 0500;likes 1 4090;likes 2 0906");
        CHECK.is("1 with 2 for 18, 0 with 3 for 0: less than none is", x.fondest(), 18);
        Check.house(x, "likes 3 9090");
        CHECK.is("0 1 and 2 3 for 9 and 15; 1 2 and 0 3 for 18 and 9", x.fondest(), 27);
        SharedCup y = Check.of(Check.people(3), "likes 0 099;likes 1 909;likes 2 990");
        CHECK.is("of three a pair", y.fondest(), 18);
        CHECK.is("of one none", Check.of(Check.people(1)).fondest(), 0);
        SharedCup z = Check.of(Check.people(8), "likes 0 99999999;likes 1 99999999;likes 2 99999999;likes 3 99999999",
            "likes 4 99999999;likes 5 99999999;likes 6 99999999;likes 7 99999999");
        CHECK.is("of eight four, and one's own is not looked at", z.fondest(), 72);
    }

    private static void betweenAndHub() {
        SharedCup x = Check.of(Check.people(8), "bond 0 1 1 till 9;bond 1 2 1 till 9;bond 2 3 1 till 9;bond 3 4 1 till 9;bond 4 5 1 till 9;bond 5 6 1 till 9;bond 6 7 1 till 9");
        CHECK.is("between(0, 7)", x.between(0, 7), 7);
        CHECK.is("between(7, 0)", x.between(7, 0), 7);
        CHECK.is("between(3, 3)", x.between(3, 3), 0);
        CHECK.is("between(2, 4)", x.between(2, 4), 2);
        CHECK.is("hub(): the least of several", x.hub(), 1);
        Check.house(x, "bond 7 5 1 till 9;bond 0 7 1 till 5");
        CHECK.is("between(0, 6)", x.between(0, 6), 2);
        CHECK.is("hub()", x.hub(), 5);
        Check.house(x, "day 5");
        CHECK.is("between(0, 5) later", x.between(0, 5), 5);
        x.wash(1, 2);
        CHECK.is("between(0, 7) parted", x.between(0, 7), -1);
        CHECK.is("CIRCLES then", x.circles(), 2);
        Check.house(x, "day 9");
        CHECK.is("hub() without BONDS", x.hub(), -1);
        CHECK.is("between two without", x.between(0, 1), -1);
        CHECK.is("between oneself without", x.between(1, 1), 0);
        CHECK.index("between(8, 0)", () -> x.between(8, 0));
        CHECK.index("between(0, -1)", () -> x.between(0, -1));
    }
}

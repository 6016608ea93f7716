/** Promises 17 and 40 to 46: days ahead, trials and spans, the log, the seed. */
public final class DaysTest {
    private static final Check CHECK = new Check();

    public static void main(String[] args) {
        ahead();
        aheadInARow();
        calm();
        trial();
        span();
        log();
        longLog();
        seed();
        CHECK.close();
    }

    private static void ahead() {
        SharedCup x = Check.of("person at 0;person at 3;person at 5;flour d;bond 0 1 1 till 3;bond 1 2 2 till 2");
        CHECK.is("now", x.ahead(0, 0, false), 0);
        CHECK.is("0 goes to 1", x.ahead(0, 1, false), 3);
        CHECK.is("1 goes to 2", x.ahead(1, 1, false), 5);
        CHECK.is("2 goes to 1, who is there", x.ahead(2, 1, false), 5);
        CHECK.is("0 follows", x.ahead(0, 2, false), 5);
        CHECK.is("no FLOUR where they meet", x.ahead(1, 400, true), 0);
        Check.house(x, "flour f");
        CHECK.is("1 and 2 on two DAYS, 0 and 1 on two", x.ahead(1, 400, true), 20);
        CHECK.is("2", x.ahead(2, 400, true), 10);
        CHECK.is("0", x.ahead(0, 2, true), 5);
        CHECK.is("0 then", x.ahead(0, 3, true), 10);
        CHECK.is("nothing stays", x.count(3), 0);
        CHECK.is("no DRAW", x.seed(1), 1);
        CHECK.is("no act", x.count(12), 0);
        CHECK.is("no footprint", x.count(10), 0);
        CHECK.argument("ahead(0, 401)", () -> x.ahead(0, 401, false));
        CHECK.argument("ahead(0, -1)", () -> x.ahead(0, -1, true));
        CHECK.index("ahead(3, 0)", () -> x.ahead(3, 0, false));
        CHECK.index("ahead(-1, 401)", () -> x.ahead(-1, 401, false));
    }

    private static void aheadInARow() {
        SharedCup x = Check.of("person at 0;person at 1;person at 2;bond 0 2 1 till 99;bond 0 1 1 till 99;flour a");
        Check.law(x, "suspect 1 if day < 10;suspect 2 if day > 9");
        CHECK.is("the MOST of 0 is the least of several", x.ahead(0, 1, false), 1);
        CHECK.is("2 goes where 0 went", x.ahead(2, 1, false), 1);
        Check.house(x, "flour b");
        CHECK.is("both BONDS of 0 on ten DAYS, 1 and 1", x.ahead(0, 10, true), 20);
        CHECK.is("then 2 and 2", x.ahead(0, 12, true), 28);
        CHECK.is("99 at most", x.ahead(0, 99, true), 99);
    }

    private static void calm() {
        SharedCup x = Check.of("person at 0;person at 3;flour d;bond 0 1 1 till 5;day 3");
        CHECK.is("calm(0)", x.calm(0), 0);
        CHECK.is("calm(1)", x.calm(1), 0);
        CHECK.is("calm(2)", x.calm(2), 0);
        CHECK.is("calm(3)", x.calm(3), 1);
        CHECK.is("calm(400)", x.calm(400), 398);
        x.strew(3, false);
        CHECK.is("without FLOUR", x.calm(400), 400);
        x.strew(3, true);
        x.wed(0, 1);
        CHECK.is("of the WED", x.calm(7), 7);
        CHECK.is("nothing stays", x.count(3), 3);
        CHECK.argument("calm(-1)", () -> x.calm(-1));
        CHECK.argument("calm(401)", () -> x.calm(401));
    }

    private static void trial() {
        SharedCup x = Check.of("person at 0;person at 3;flour d;bond 0 1 8 till 400;bond 1 0 8 till 400");
        CHECK.is("trial(0)", x.trial(0, false), 0);
        CHECK.is("8 and 8 do not go", x.trial(1, false), 0);
        CHECK.is("3 does", x.trial(2, false), 1);
        CHECK.is("SUSPECTED of all", x.trial(2, true), 10);
        CHECK.is("SUSPECTED of all in the end", x.trial(60, true), 198);
        int sixty = x.trial(60, false);
        CHECK.is("nothing stays", x.trial(60, false), sixty);
        CHECK.is("no DRAW stays", x.seed(1), 1);
        CHECK.is("days are the same", x.days(60), sixty);
        CHECK.is("SUSPECTED then", x.count(7), 198);
        CHECK.is("trial(0) of SUSPECTED", x.trial(0, true), 198);
        CHECK.is("trial(0) of footprints", x.trial(0, false), 0);
        CHECK.argument("trial(-1)", () -> x.trial(-1, false));
        CHECK.argument("trial(61)", () -> x.trial(61, true));
    }

    private static void span() {
        SharedCup x = Check.of("person at 0;person at 3;flour d;bond 0 1 5 till 400");
        x.seed(99);
        int fewest = 99;
        int most = -1;
        for (int seed = 1; seed <= 6; seed++) {
            x.seed(seed);
            int prints = x.trial(4, false);
            fewest = Math.min(fewest, prints);
            most = Math.max(most, prints);
        }
        x.seed(99);
        CHECK.yes("they differ", fewest < most);
        CHECK.is("the fewest", x.span(4, false), fewest);
        CHECK.is("the most", x.span(4, true), most);
        CHECK.is("of no DAYS", x.span(0, true), 0);
        CHECK.is("of no DAYS the fewest", x.span(0, false), 0);
        CHECK.is("SEED stays", x.seed(1), 99);
        CHECK.is("DAY stays", x.count(3), 0);
        CHECK.argument("span(-1)", () -> x.span(-1, false));
        CHECK.argument("span(61)", () -> x.span(61, true));
    }

    private static void row(SharedCup x, int ago, int day, int one, int other, int room) {
        int[] due = {day, one, other, room};
        for (int what = 0; what < 4; what++) {
            CHECK.is("log(" + ago + ", " + what + ")", x.log(ago, what), due[what]);
        }
    }

    private static void log() {
        SharedCup x = Check.of("person at 4;person at 4;person at 4;person at 1;flour e;day 998",
            "bond 0 1 1 till 999;bond 1 2 1 till 999;wed 0 2;bond 0 2 1 till 999");
        CHECK.is("two footprints", x.days(1), 2);
        row(x, 0, 998, 1, 2, 4);
        row(x, 1, 998, 0, 1, 4);
        row(x, 2, -1, -1, -1, -1);
        CHECK.is("log(-1, 0)", x.log(-1, 0), -1);
        CHECK.is("log(MAX, 0)", x.log(Integer.MAX_VALUE, 0), -1);
        CHECK.element("log(0, 4)", () -> x.log(0, 4));
        CHECK.element("log(0, -1)", () -> x.log(0, -1));
        CHECK.element("log(9, 4), even without a row", () -> x.log(9, 4));
        CHECK.is("rows of 1", x.led(1, false), 2);
        CHECK.is("rows of 0", x.led(0, false), 1);
        CHECK.is("rows of 3", x.led(3, false), 0);
        CHECK.is("the ROOM of 0", x.led(0, true), 4);
        CHECK.is("the ROOM of 3", x.led(3, true), -1);
        Check.house(x, "day 1;flour f");
        for (int person = 0; person < 3; person++) {
            x.go(person, 5);
        }
        x.wash(0, 1);
        CHECK.is("one footprint more", x.days(1), 1);
        row(x, 0, 1, 1, 2, 5);
        row(x, 2, 998, 0, 1, 4);
        CHECK.is("the latest ROOM of 1", x.led(1, true), 5);
        CHECK.is("the latest ROOM of 0", x.led(0, true), 4);
        CHECK.is("footprints in all", x.count(10), 3);
        CHECK.is("rows", x.count(11), 3);
        CHECK.index("led(4, true)", () -> x.led(4, true));
        CHECK.index("led(-1, false)", () -> x.led(-1, false));
    }

    private static void longLog() {
        SharedCup x = Check.of("person at 1;person at 1;person at 2;person at 2;flour bc",
            "bond 0 1 9 till 7;bond 2 3 9 till 999");
        CHECK.is("seven DAYS of two", x.days(7), 14);
        CHECK.is("rows", x.count(11), 14);
        CHECK.is("46 more", x.days(46), 46);
        CHECK.is("60 rows", x.count(11), 60);
        row(x, 59, 0, 0, 1, 1);
        CHECK.is("one more", x.days(1), 1);
        CHECK.is("60 rows at most", x.count(11), 60);
        CHECK.is("61 in all", x.count(10), 61);
        row(x, 0, 53, 2, 3, 2);
        row(x, 59, 0, 2, 3, 2);
        row(x, 60, -1, -1, -1, -1);
        CHECK.is("rows of 0", x.led(0, false), 6);
        CHECK.is("the ROOM of 0", x.led(0, true), 1);
        x.days(60);
        CHECK.is("rows of 0 that went by", x.led(0, false), 0);
        CHECK.is("no ROOM of 0", x.led(0, true), -1);
        CHECK.is("rows of 2", x.led(2, false), 60);
        row(x, 59, 54, 2, 3, 2);
        CHECK.yes("undo()", x.undo());
        row(x, 59, 0, 2, 3, 2);
        CHECK.is("rows of 0 again", x.led(0, false), 6);
        CHECK.is("in all again", x.count(10), 61);
    }

    private static void seed() {
        SharedCup x = Check.of("person at 0;person at 3;bond 0 1 9 till 99");
        CHECK.is("seed()", x.seed(Integer.MIN_VALUE), 1);
        CHECK.is("seed() of any", x.seed(-1), Integer.MIN_VALUE);
        CHECK.is("seed() again", x.seed(16838), -1);
        CHECK.is("no act", x.count(12), 0);
        x.days(1);
        int first = 16838 * 1103515245 + 12345;
        CHECK.is("two DRAWS", x.seed(1), first * 1103515245 + 12345);
        SharedCup y = Check.of("person at 0;person at 3");
        y.days(60);
        CHECK.is("no DRAW of those who are not bound", y.seed(5), 1);
    }
}

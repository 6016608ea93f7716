/** Edges of promises 40 to 46: each method holds one sentence of the document. */
public final class EdgeDaysTest {
    private static final Check CHECK = new Check();
    private static final int[] NO_PERSON_OF_TWO = {-1, 2, 8, Integer.MIN_VALUE, Integer.MAX_VALUE};

    public static void main(String[] args) {
        aheadByNoughtTo400();
        aheadThrowsTheFirst();
        aheadWithoutDraws();
        aheadOverTheLastDay();
        aheadLeavesNothing();
        calmByNoughtTo400();
        calmOnNoneAndOnAll();
        calmLeavesNothing();
        trialOfNoughtTo60();
        trialIsAsTheDays();
        trialOfAll();
        spanOfNoughtTo60();
        spanOfSixSeeds();
        ledOfNoneAndOfAll();
        logOfNone();
        logOf60Rows();
        logOfTheGreatest();
        logWhat();
        logInTheOrderOfOneThenOther();
        seedOfAnyNumber();
        seedIsNoAct();
        CHECK.close();
    }

    private static SharedCup apart() {
        return Check.of("person at 0;person at 3;flour d;bond 0 1 1 till 999");
    }

    /** "AHEAD by N DAYS (0 to 400)" */
    private static void aheadByNoughtTo400() {
        SharedCup x = apart();
        CHECK.is("0 DAYS", x.ahead(0, 0, false), 0);
        CHECK.is("0 DAYS, SUSPECTED", x.ahead(0, 0, true), 0);
        CHECK.is("1 DAY", x.ahead(0, 1, false), 3);
        CHECK.is("1 DAY, SUSPECTED", x.ahead(0, 1, true), 5);
        CHECK.is("19 DAYS", x.ahead(0, 19, true), 95);
        CHECK.is("20 DAYS: 99 at most", x.ahead(0, 20, true), 99);
        CHECK.is("400 DAYS", x.ahead(1, 400, true), 99);
        CHECK.is("400 DAYS, the ROOM", x.ahead(1, 400, false), 3);
        for (int none : new int[] {-1, 401, Integer.MIN_VALUE, Integer.MAX_VALUE}) {
            CHECK.argument("ahead by " + none, () -> x.ahead(0, none, false));
            CHECK.argument("ahead by " + none + ", SUSPECTED", () -> x.ahead(1, none, true));
        }
        // the law tells the last of the 400 DAYS apart
        Check.law(x, "suspect 1 if day > 398");
        CHECK.is("399 DAYS", x.ahead(0, 399, true), 0);
        CHECK.is("the 400th DAY", x.ahead(0, 400, true), 1);
    }

    /** "Of several exceptions the one told first is thrown" */
    private static void aheadThrowsTheFirst() {
        SharedCup x = apart();
        for (int none : NO_PERSON_OF_TWO) {
            CHECK.index("ahead of " + none, () -> x.ahead(none, 1, false));
            CHECK.index("ahead of " + none + " by none", () -> x.ahead(none, 401, true));
        }
        CHECK.index("of nobody", () -> new SharedCup().ahead(0, 0, false));
    }

    /** "as so many DAYS in which all who are bound go (no DRAWS)" */
    private static void aheadWithoutDraws() {
        for (int seed = 1; seed <= 20; seed++) {
            SharedCup x = apart();
            x.seed(seed);
            CHECK.is("0 goes by SEED " + seed, x.ahead(0, 1, false), 3);
            CHECK.is("1 stays by SEED " + seed, x.ahead(1, 1, false), 3);
            CHECK.is("SEED " + seed + " stays", x.seed(0), seed);
        }
        SharedCup y = Check.of("person at 0;person at 3;bond 0 1 9 till 1;person at 5");
        CHECK.is("who is not bound stays", y.ahead(2, 400, false), 5);
        CHECK.is("while it holds", y.ahead(0, 1, false), 3);
        SharedCup z = Check.of("person at 0;person at 3;bond 0 1 9 till 5;day 5");
        CHECK.is("what does not hold moves nobody", z.ahead(0, 400, false), 0);
    }

    private static void aheadOverTheLastDay() {
        SharedCup x = Check.onLastDay("person at 0;person at 3;flour abcdef");
        x.share(3, 2);
        CHECK.is("nobody is bound", x.ahead(0, 400, false), 0);
        CHECK.is("so all are calm", x.calm(400), 400);
        CHECK.is("nobody is SUSPECTED", x.ahead(0, 400, true), 0);
        CHECK.is("no footprints", x.trial(60, false), 0);
        CHECK.is("none at most", x.span(60, true), 0);
        SharedCup y = Check.of("person at 0;person at 3;flour abcdef;lasts 400", "day 999");
        for (int k = 0; k < 149; k++) {
            y.days(60);
        }
        y.days(58);
        y.share(3, 2);
        CHECK.is("two DAYS are left", y.count(3), 9997);
        CHECK.is("on these there are footprints", y.calm(400), 398);
        CHECK.is("SUSPECTED by two", y.ahead(0, 400, true), 10);
        CHECK.is("one on the first", y.calm(1), 0);
    }

    private static void aheadLeavesNothing() {
        SharedCup x = apart();
        x.go(0, 1);
        x.seed(77);
        String before = Check.all(x);
        x.ahead(0, 400, true);
        x.ahead(1, 400, false);
        CHECK.same("all is as it was", Check.all(x), before);
        CHECK.is("no act", x.count(12), 1);
    }

    /** "CALM for N DAYS (0 to 400) AHEAD: on how many of these nobody leaves a footprint." */
    private static void calmByNoughtTo400() {
        SharedCup x = new SharedCup();
        CHECK.is("calm(0)", x.calm(0), 0);
        CHECK.is("calm(1)", x.calm(1), 1);
        CHECK.is("calm(400)", x.calm(400), 400);
        for (int none : new int[] {-1, 401, Integer.MIN_VALUE, Integer.MAX_VALUE}) {
            CHECK.argument("calm(" + none + ")", () -> x.calm(none));
        }
    }

    private static void calmOnNoneAndOnAll() {
        SharedCup x = apart();
        CHECK.is("calm(0)", x.calm(0), 0);
        CHECK.is("none of 400", x.calm(400), 0);
        Check.law(x, "");
        CHECK.is("a footprint by 0 is one", x.calm(400), 0);
        Check.house(x, "bond 0 1 1 till 10");
        CHECK.is("till DAY 10", x.calm(400), 390);
        CHECK.is("the first ten", x.calm(10), 0);
        CHECK.is("and one", x.calm(11), 1);
        x.strew(3, false);
        CHECK.is("all of them without FLOUR", x.calm(400), 400);
        SharedCup y = Check.of(Check.people(8), "flour a");
        y.share(255, 0);
        CHECK.is("28 on a DAY are one DAY", y.calm(101), 1);
    }

    private static void calmLeavesNothing() {
        SharedCup x = apart();
        x.go(0, 1);
        String before = Check.all(x);
        x.calm(400);
        CHECK.same("all is as it was", Check.all(x), before);
        CHECK.is("no act", x.count(12), 1);
    }

    /** "TRIAL of N DAYS (0 to 60) from now (draws, too; nothing stays)" */
    private static void trialOfNoughtTo60() {
        SharedCup x = Check.of(Check.people(2), "flour a;bond 0 1 1 till 999");
        CHECK.is("trial(0)", x.trial(0, false), 0);
        CHECK.is("trial(0) of SUSPECTED", x.trial(0, true), 0);
        CHECK.is("trial(1)", x.trial(1, false), 1);
        CHECK.is("trial(1) of SUSPECTED", x.trial(1, true), 10);
        CHECK.is("trial(60)", x.trial(60, false), 60);
        CHECK.is("trial(60) of SUSPECTED", x.trial(60, true), 198);
        for (int none : new int[] {-1, 61, Integer.MIN_VALUE, Integer.MAX_VALUE}) {
            CHECK.argument("trial(" + none + ")", () -> x.trial(none, false));
            CHECK.argument("trial(" + none + ") of SUSPECTED", () -> x.trial(none, true));
        }
        x.days(60);
        CHECK.is("footprints of these DAYS alone", x.trial(7, false), 7);
        CHECK.is("trial(0) behind them", x.trial(0, false), 0);
        CHECK.is("SUSPECTED as it is now", x.trial(0, true), 198);
    }

    private static void trialIsAsTheDays() {
        for (int seed : new int[] {1, 2, 77, -5, Integer.MIN_VALUE}) {
            for (int n : new int[] {1, 7, 60}) {
                SharedCup x = Check.of("person at 0;person at 3;person at 5;flour df;bond 0 1 5 till 40;bond 1 2 4 till 50");
                x.seed(seed);
                String before = Check.all(x);
                int prints = x.trial(n, false);
                int suspected = x.trial(n, true);
                CHECK.same("all is as it was", Check.all(x), before);
                CHECK.is("no act", x.count(12), 0);
                CHECK.is("footprints by SEED " + seed, x.days(n), prints);
                CHECK.is("SUSPECTED by SEED " + seed, x.count(7), suspected);
            }
        }
    }

    private static void trialOfAll() {
        SharedCup x = Check.of(Check.people(8), "flour a;lasts 400");
        x.share(255, 0);
        CHECK.is("28 on each of 60 DAYS", x.trial(60, false), 28 * 60);
        CHECK.is("99 of each", x.trial(60, true), 8 * 99);
        CHECK.is("of nobody", new SharedCup().trial(60, true), 0);
    }

    /** "SPAN: the fewest and the most footprints" */
    private static void spanOfNoughtTo60() {
        SharedCup x = Check.of(Check.people(2), "flour a;bond 0 1 1 till 999");
        CHECK.is("the fewest of 0", x.span(0, false), 0);
        CHECK.is("the most of 0", x.span(0, true), 0);
        CHECK.is("the fewest of 60", x.span(60, false), 60);
        CHECK.is("the most of 60", x.span(60, true), 60);
        for (int none : new int[] {-1, 61, Integer.MIN_VALUE, Integer.MAX_VALUE}) {
            CHECK.argument("span(" + none + ", false)", () -> x.span(none, false));
            CHECK.argument("span(" + none + ", true)", () -> x.span(none, true));
        }
        x.days(60);
        CHECK.is("footprints of these DAYS alone", x.span(7, true), 7);
    }

    /** "from SEED 1, 2, .. 6" */
    private static void spanOfSixSeeds() {
        // one of the seeds 1 and 6 alone may have the most or the fewest: look for such houses
        boolean firstAlone = false;
        boolean lastAlone = false;
        for (int bond = 1; bond <= 9; bond++) {
            for (int n = 1; n <= 12; n++) {
                SharedCup x = Check.of("person at 0;person at 3;person at 5;flour df",
                    "bond 0 1 " + bond + " till 99;bond 1 2 " + bond + " till 9");
                int[] prints = new int[8];
                for (int seed = 0; seed <= 7; seed++) {
                    x.seed(seed);
                    prints[seed] = x.trial(n, false);
                }
                x.seed(-9);
                int fewest = prints[1];
                int most = prints[1];
                int middleFewest = prints[2];
                int middleMost = prints[2];
                for (int seed = 2; seed <= 6; seed++) {
                    fewest = Math.min(fewest, prints[seed]);
                    most = Math.max(most, prints[seed]);
                    if (seed < 6) {
                        middleFewest = Math.min(middleFewest, prints[seed]);
                        middleMost = Math.max(middleMost, prints[seed]);
                    }
                }
                CHECK.is("the fewest", x.span(n, false), fewest);
                CHECK.is("the most", x.span(n, true), most);
                CHECK.is("SEED stays", x.seed(-9), -9);
                boolean first = prints[1] > Math.max(middleMost, prints[6]) || prints[1] < Math.min(middleFewest, prints[6]);
                boolean last = prints[6] > Math.max(middleMost, prints[1]) || prints[6] < Math.min(middleFewest, prints[1]);
                firstAlone = firstAlone || first;
                lastAlone = lastAlone || last;
            }
        }
        CHECK.yes("SEED 1 counted", firstAlone);
        CHECK.yes("SEED 6 counted", lastAlone);
    }

    /** "LED: how many rows of THE LOG one is in; the ROOM of the latest (none)" */
    private static void ledOfNoneAndOfAll() {
        SharedCup x = Check.of("person at 5;person at 5;person at 0;flour f;bond 0 1 9 till 999");
        for (int person = 0; person < 3; person++) {
            CHECK.is("no row", x.led(person, false), 0);
            CHECK.is("no ROOM", x.led(person, true), -1);
        }
        x.days(60);
        CHECK.is("60 rows as one", x.led(0, false), 60);
        CHECK.is("60 rows as other", x.led(1, false), 60);
        CHECK.is("none of 2", x.led(2, false), 0);
        CHECK.is("ROOM 5", x.led(1, true), 5);
        CHECK.is("none", x.led(2, true), -1);
        x.days(60);
        CHECK.is("60 at most", x.led(0, false), 60);
        x.strew(0, true);
        x.go(0, 0);
        x.go(1, 0);
        x.days(1);
        CHECK.is("the latest is ROOM 0", x.led(0, true), 0);
        CHECK.is("60 rows still", x.led(0, false), 60);
        for (int none : new int[] {-1, 3, 8, Integer.MIN_VALUE, Integer.MAX_VALUE}) {
            CHECK.index("led(" + none + ", false)", () -> x.led(none, false));
            CHECK.index("led(" + none + ", true)", () -> x.led(none, true));
        }
    }

    /** "NONE without" */
    private static void logOfNone() {
        SharedCup x = new SharedCup();
        for (int what = 0; what < 4; what++) {
            for (int ago : new int[] {0, 1, 59, 60, -1, Integer.MIN_VALUE, Integer.MAX_VALUE}) {
                CHECK.is("log(" + ago + ", " + what + ")", x.log(ago, what), -1);
            }
        }
    }

    /** "THE LOG: the latest 60 footprints" */
    private static void logOf60Rows() {
        SharedCup x = Check.of(Check.people(2), "flour a;bond 0 1 9 till 999");
        for (int prints = 1; prints <= 125; prints++) {
            x.days(1);
            int rows = Math.min(60, prints);
            CHECK.is("rows", x.count(11), rows);
            CHECK.is("in all", x.count(10), prints);
            CHECK.is("the latest", x.log(0, 0), prints - 1);
            CHECK.is("the first", x.log(rows - 1, 0), prints - rows);
            CHECK.is("none ahead of it", x.log(rows, 0), -1);
        }
        CHECK.is("log(-1, 0)", x.log(-1, 0), -1);
        CHECK.is("log(MIN, 0)", x.log(Integer.MIN_VALUE, 0), -1);
        CHECK.is("log(MAX, 0)", x.log(Integer.MAX_VALUE, 0), -1);
        CHECK.is("log(59, 3)", x.log(59, 3), 0);
        CHECK.is("log(60, 3)", x.log(60, 3), -1);
    }

    private static void logOfTheGreatest() {
        SharedCup x = Check.of("person at 5;person at 5;person at 5;person at 5;person at 5;person at 5;person at 5;person at 5",
            "flour f;day 999;lasts 400");
        for (int k = 0; k < 149; k++) {
            x.days(60);
        }
        x.days(59);
        x.share(0b11000000, 0);
        CHECK.is("a footprint on the last DAY but one", x.days(60), 1);
        int[] due = {9998, 6, 7, 5};
        for (int what = 0; what < 4; what++) {
            CHECK.is("log(0, " + what + ")", x.log(0, what), due[what]);
        }
    }

    /** "NoSuchElementException: another what." */
    private static void logWhat() {
        SharedCup x = Check.of(Check.people(2), "flour a;bond 0 1 9 till 999");
        for (int rows = 0; rows < 2; rows++) {
            for (int none : new int[] {-1, 4, Integer.MIN_VALUE, Integer.MAX_VALUE}) {
                CHECK.element("log(0, " + none + ")", () -> x.log(0, none));
                CHECK.element("log(-1, " + none + ")", () -> x.log(-1, none));
                CHECK.element("log(60, " + none + ")", () -> x.log(60, none));
            }
            x.days(1);
        }
    }

    /** "Each two who are in one ROOM then, in the order of one, then other" */
    private static void logInTheOrderOfOneThenOther() {
        SharedCup x = Check.of(Check.people(8), "flour a");
        x.share(255, 0);
        CHECK.is("28 on a DAY", x.days(1), 28);
        int ago = 27;
        for (int one = 0; one < 8; one++) {
            for (int other = one + 1; other < 8; other++) {
                CHECK.is("one", x.log(ago, 1), one);
                CHECK.is("other", x.log(ago, 2), other);
                ago--;
            }
        }
        CHECK.is("84 in three DAYS", x.days(2), 56);
        CHECK.is("60 of them are rows", x.count(11), 60);
        CHECK.is("the first of these is of DAY 0", x.log(59, 0), 0);
        CHECK.is("it is the 25th", 10 * x.log(59, 1) + x.log(59, 2), 47);
    }

    /** "SEED: what it was" */
    private static void seedOfAnyNumber() {
        SharedCup x = new SharedCup();
        int was = 1;
        for (int seed : new int[] {0, -1, Integer.MIN_VALUE, Integer.MAX_VALUE, 1, 1}) {
            CHECK.is("seed(" + seed + ")", x.seed(seed), was);
            was = seed;
        }
    }

    private static void seedIsNoAct() {
        SharedCup x = Check.of(Check.people(1));
        x.seed(5);
        CHECK.is("nothing to be undone", x.count(12), 0);
        CHECK.no("undo()", x.undo());
        CHECK.is("SEED", x.seed(6), 5);
        Check.house(x, "day 1");
        CHECK.is("a text leaves it", x.seed(7), 6);
    }
}

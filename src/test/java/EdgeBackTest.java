import java.util.ArrayList;
import java.util.List;

/** Edges of promises 47 to 50: each method holds one sentence of the document. */
public final class EdgeBackTest {
    private static final Check CHECK = new Check();

    public static void main(String[] args) {
        undoOfNone();
        twelveAreRemembered();
        daysOfOneCallAreOne();
        undoneOnesAreNotUndoneAgain();
        manyActsAndUndone();
        undoLeavesTheTape();
        undoLeavesTheImage();
        undoGivesBackTheSeed();
        undoGivesBackTheLog();
        textForgetsActs();
        wrongTextForgetsNone();
        backForgetsActs();
        backWithoutAnImage();
        imageOfAnEmptyHouse();
        imageOfAFullHouse();
        whoIsGoneCountsForNothing();
        oneImage();
        imageStays();
        backLeavesTheTape();
        imageIsNoAct();
        countOfNothing();
        countOfTheMost();
        countWhat();
        CHECK.close();
    }

    private static SharedCup bound() {
        return Check.of("person at 0;person at 0;person at 2;flour ac;bond 0 1 9 till 300;likes 0 012;likes 2 340");
    }

    /** "UNDONE: whether there was one." */
    private static void undoOfNone() {
        CHECK.no("of a new one", new SharedCup().undo());
        SharedCup x = bound();
        x.seed(9);
        String before = Check.all(x);
        CHECK.no("behind a text", x.undo());
        CHECK.same("all is as it was", Check.all(x), before);
        x.go(0, 1);
        CHECK.yes("behind an act", x.undo());
        CHECK.no("once alone", x.undo());
        CHECK.same("all is as it was again", Check.all(x), before);
    }

    /** "the latest ACT not undone yet (12 are remembered ..)" */
    private static void twelveAreRemembered() {
        for (int acts : new int[] {1, 11, 12, 13, 14, 24, 25, 40}) {
            SharedCup x = Check.of(Check.people(1));
            for (int act = 1; act <= acts; act++) {
                x.go(0, act % 6);
                CHECK.is("remembered of " + act, x.count(12), Math.min(act, 12));
            }
            int left = Math.min(acts, 12);
            for (int back = 1; back <= left; back++) {
                CHECK.yes("undo " + back + " of " + acts, x.undo());
                CHECK.is("ROOM behind it", x.person(0, 0), (acts - back) % 6);
                CHECK.is("left behind it", x.count(12), left - back);
            }
            CHECK.no("none is left of " + acts, x.undo());
            CHECK.is("so nothing happens", x.person(0, 0), (acts - left) % 6);
        }
    }

    /** "DAYS of one call are one" */
    private static void daysOfOneCallAreOne() {
        SharedCup x = bound();
        String before = Check.all(x);
        x.days(60);
        CHECK.is("acts", x.count(12), 1);
        CHECK.is("DAY", x.count(3), 60);
        CHECK.yes("undo()", x.undo());
        CHECK.same("all is as ahead of it", Check.all(x), before);
    }

    private static void undoneOnesAreNotUndoneAgain() {
        SharedCup x = bound();
        x.go(2, 3);
        x.go(2, 4);
        x.undo();
        x.go(2, 5);
        CHECK.yes("the latest", x.undo());
        CHECK.is("ROOM", x.person(2, 0), 3);
        CHECK.yes("the first, not the one that was undone", x.undo());
        CHECK.is("ROOM at first", x.person(2, 0), 2);
        CHECK.no("no other", x.undo());
    }

    /** Acts and undoing by turns, over the twelve and back, against a list of all that was. */
    private static void manyActsAndUndone() {
        SharedCup x = bound();
        List<String> past = new ArrayList<>();
        int dice = 7;
        for (int step = 0; step < 120; step++) {
            dice = dice * 37 + 11 & 1023;
            if (dice % 3 == 0) {
                CHECK.same("whether there was one", x.undo(), !past.isEmpty());
                if (!past.isEmpty()) {
                    CHECK.same("all as ahead of it", Check.all(x), past.remove(past.size() - 1));
                }
                continue;
            }
            past.add(Check.all(x));
            if (past.size() > 12) {
                past.remove(0);
            }
            act(x, dice % 7, dice);
            CHECK.is("acts", x.count(12), past.size());
        }
    }

    private static void act(SharedCup x, int kind, int dice) {
        switch (kind) {
            case 0:
                x.days(1 + dice % 60);
                break;
            case 1:
                x.share(1 + dice % 7 | 3, dice % 4);
                break;
            case 2:
                x.wash(0, 1 + dice % 2);
                break;
            case 3:
                x.strew(dice % 6, dice % 5 > 1);
                break;
            case 4:
                x.clear(dice % 3);
                break;
            default:
                x.go(dice % 3, dice % 6);
                break;
        }
    }

    /** "(but for the TAPE, fault(), THE IMAGE)" */
    private static void undoLeavesTheTape() {
        SharedCup x = bound();
        x.go(0, 1);
        CHECK.argument("a wrong text", () -> Check.house(x, "day 1;x"));
        Check.put(x, "day 5");
        CHECK.yes("undo()", x.undo());
        CHECK.is("fault() stays", x.fault(), 6);
        CHECK.no("the tape is no longer", x.end(6));
        CHECK.yes("nor shorter", x.end(5));
        CHECK.is("its text is the same", x.house(), 2);
        CHECK.is("DAY", x.count(3), 5);
    }

    private static void undoLeavesTheImage() {
        SharedCup x = bound();
        x.go(2, 3);
        x.image();
        x.go(2, 4);
        CHECK.yes("the act behind the image", x.undo());
        CHECK.yes("the act ahead of the image", x.undo());
        CHECK.is("ROOM", x.person(2, 0), 2);
        CHECK.yes("back()", x.back());
        CHECK.is("ROOM of the image", x.person(2, 0), 3);
    }

    private static void undoGivesBackTheSeed() {
        SharedCup x = bound();
        x.seed(41);
        x.days(1);
        x.seed(99);
        CHECK.yes("undo()", x.undo());
        CHECK.is("as ahead of the act", x.seed(0), 41);
    }

    private static void undoGivesBackTheLog() {
        SharedCup x = bound();
        x.days(59);
        x.days(1);
        int prints = x.count(10);
        String before = Check.all(x);
        x.days(60);
        CHECK.yes("there are more", x.count(10) > prints);
        CHECK.yes("undo()", x.undo());
        CHECK.is("footprints in all", x.count(10), prints);
        CHECK.same("each row", Check.all(x), before);
        CHECK.yes("undo of the 60th", x.undo());
        CHECK.yes("there are fewer", x.count(10) < prints);
        CHECK.yes("undo of the first 59", x.undo());
        CHECK.is("none", x.count(10), 0);
        CHECK.is("no row", x.log(0, 0), -1);
    }

    /** "A text, going back: none are remembered." */
    private static void textForgetsActs() {
        for (String text : new String[] {"", "   ", "day 3", "person at 1"}) {
            SharedCup x = bound();
            x.go(0, 1);
            x.days(2);
            Check.house(x, text);
            CHECK.is("acts behind \"" + text + "\"", x.count(12), 0);
            CHECK.no("undo() behind \"" + text + "\"", x.undo());
            CHECK.is("what was done stays: 0 went back to 1, for two DAYS", x.count(10), 2);
            x.go(2, 5);
            CHECK.yes("an act behind it", x.undo());
            CHECK.no("that one alone", x.undo());
        }
        for (String text : new String[] {"", "bind 1"}) {
            SharedCup x = bound();
            x.go(0, 1);
            Check.law(x, text);
            CHECK.is("acts behind the law \"" + text + "\"", x.count(12), 0);
            CHECK.no("undo() behind the law", x.undo());
            CHECK.is("what was done stays", x.person(0, 0), 1);
        }
    }

    private static void wrongTextForgetsNone() {
        SharedCup x = bound();
        for (int act = 0; act < 12; act++) {
            x.go(0, act % 6);
        }
        CHECK.argument("a wrong house", () -> Check.house(x, "x"));
        CHECK.argument("a wrong law", () -> Check.law(x, "x"));
        CHECK.argument("a wrong row", () -> {
            Check.put(x, "x");
            x.drank(true);
        });
        CHECK.is("no text, but a tape", x.drank(false), 8);
        CHECK.is("twelve acts still", x.count(12), 12);
        CHECK.yes("undo()", x.undo());
        CHECK.is("ROOM", x.person(0, 0), 4);
    }

    private static void backForgetsActs() {
        SharedCup x = bound();
        x.go(0, 3);
        x.image();
        CHECK.is("the image forgets none", x.count(12), 1);
        CHECK.yes("back()", x.back());
        CHECK.is("going back does", x.count(12), 0);
        CHECK.no("undo()", x.undo());
        CHECK.is("ROOM", x.person(0, 0), 3);
    }

    /** "false, and nothing happens, if none was kept" */
    private static void backWithoutAnImage() {
        CHECK.no("of a new one", new SharedCup().back());
        SharedCup x = bound();
        x.go(0, 3);
        String before = Check.all(x);
        CHECK.no("back()", x.back());
        CHECK.same("all is as it was", Check.all(x), before);
        CHECK.is("the act is remembered", x.count(12), 1);
        CHECK.yes("undo()", x.undo());
    }

    private static void imageOfAnEmptyHouse() {
        SharedCup x = new SharedCup();
        String before = Check.all(x);
        x.image();
        Check.house(x, Check.people(8) + ";flour abcdef;binds 9;lasts 400;day 999;wed 0 7");
        Check.law(x, "bind 1;suspect 9");
        x.share(255, 0);
        x.days(60);
        CHECK.yes("back()", x.back());
        CHECK.same("all is as at first", Check.all(x), before);
        CHECK.is("no text", x.count(1), 0);
        CHECK.is("no law", x.count(2), -1);
        Check.house(x, Check.people(8));
        CHECK.is("a new one is WED to none", x.person(7, 1), -1);
        CHECK.is("bound to none", x.person(7, 4), 0);
        CHECK.is("MET nobody", x.person(7, 3), 0);
        CHECK.is("is not SUSPECTED", x.person(7, 2), 0);
    }

    private static void imageOfAFullHouse() {
        SharedCup x = Check.of(Check.people(8), "flour a;binds 9;lasts 400;day 999;wed 0 7;likes 0 99999999");
        Check.law(x, Check.times("suspect 1 if bound", 12, ";"));
        x.share(255, 0);
        x.days(60);
        x.seed(Integer.MIN_VALUE);
        String before = Check.all(x);
        x.image();
        Check.law(x, "");
        Check.house(x, "flour f;binds 1;lasts 1;day 0;likes 0 00000000");
        x.days(60);
        for (int person = 0; person < 8; person++) {
            x.clear(person);
            x.go(person, 5);
        }
        for (int again = 0; again < 2; again++) {
            CHECK.yes("back()", x.back());
            CHECK.same("all is as it was", Check.all(x), before);
        }
    }

    /** "Sets are bits; of none they count for nothing", nor do those who came behind THE IMAGE. */
    private static void whoIsGoneCountsForNothing() {
        SharedCup x = Check.of(Check.people(2));
        Check.law(x, "bind 1 if many > 2");
        x.image();
        Check.house(x, Check.people(6));
        CHECK.is("eight", x.count(0), 8);
        CHECK.yes("back()", x.back());
        CHECK.argument("share with one who is gone", () -> x.share(0b101, 0));
        CHECK.argument("would with one who is gone", () -> x.would(0b110, 0));
        CHECK.index("who is gone", () -> x.person(2, 0));
        CHECK.is("share of all bits", x.share(-1, 0), 1);
        CHECK.is("they are two", x.bond(0, 1, false), 5);
        CHECK.is("they are two who would", x.would(-1, 0), 0);
        CHECK.is("would of all bits", x.would(-1, 2), 1);
        CHECK.is("FREE", x.free(9999), 0b11);
        CHECK.is("sets who drank", x.drank(false), 4);
        CHECK.is("ways", x.steady(-1), 1);
        x.days(1);
        CHECK.is("MET", x.person(0, 3), 0b10);
    }

    /** "THE IMAGE (one) of all may be kept" */
    private static void oneImage() {
        SharedCup x = bound();
        x.go(0, 1);
        x.image();
        x.go(0, 2);
        x.image();
        x.go(0, 3);
        CHECK.yes("back()", x.back());
        CHECK.is("to the later one", x.person(0, 0), 2);
        CHECK.yes("back() again", x.back());
        CHECK.is("to the same", x.person(0, 0), 2);
    }

    /** "(but for the TAPE, fault() and THE IMAGE itself)" */
    private static void imageStays() {
        SharedCup x = bound();
        x.image();
        for (int times = 0; times < 3; times++) {
            x.days(3);
            Check.house(x, "day 7");
            CHECK.yes("back()", x.back());
            CHECK.is("DAY", x.count(3), 0);
            CHECK.is("texts", x.count(1), 1);
        }
    }

    private static void backLeavesTheTape() {
        SharedCup x = bound();
        Check.put(x, "lasts 8");
        x.image();
        x.end(0);
        CHECK.argument("a wrong text", () -> Check.house(x, "x"));
        Check.put(x, "day 5");
        CHECK.yes("back()", x.back());
        CHECK.is("fault() stays", x.fault(), 0);
        CHECK.no("the tape is no longer", x.end(6));
        CHECK.is("its text is the same", x.house(), 2);
        CHECK.is("DAY", x.count(3), 5);
        CHECK.is("LASTS", x.count(6), 100);
    }

    private static void imageIsNoAct() {
        SharedCup x = bound();
        String before = Check.all(x);
        x.image();
        CHECK.same("nothing changes by it", Check.all(x), before);
        CHECK.is("acts", x.count(12), 0);
        CHECK.no("undo()", x.undo());
    }

    private static void countOfNothing() {
        SharedCup x = new SharedCup();
        int[] due = {0, 0, -1, 0, 0, 5, 100, 0, 0, 0, 0, 0, 0};
        for (int what = 0; what < due.length; what++) {
            CHECK.is("count(" + what + ")", x.count(what), due[what]);
        }
    }

    private static void countOfTheMost() {
        SharedCup x = Check.of(Check.people(8), "flour abcdef;binds 9;lasts 400;day 999;wed 0 1;wed 2 3;wed 4 5;wed 6 7");
        for (int text = 3; text <= 12; text++) {
            Check.house(x, "");
        }
        Check.law(x, Check.times("suspect 99", 12, ";"));
        for (int k = 0; k < 146; k++) {
            x.days(60);
        }
        x.share(255, 0);
        x.days(60);
        x.days(60);
        int[] due = {8, 12, 12, 9879, 63, 9, 400, 8 * 99, 4, 28, 24 * 120, 60, 12};
        for (int what = 0; what < due.length; what++) {
            CHECK.is("count(" + what + ")", x.count(what), due[what]);
        }
    }

    /** "NONE for another what." */
    private static void countWhat() {
        for (int none : new int[] {-1, 13, Integer.MIN_VALUE, Integer.MAX_VALUE}) {
            CHECK.is("count(" + none + ")", bound().count(none), -1);
            CHECK.is("count(" + none + ") of nobody", new SharedCup().count(none), -1);
        }
    }
}

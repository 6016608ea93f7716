/** Promises 47 to 50: acts undone, the image, counts. */
public final class BackTest {
    private static final Check CHECK = new Check();

    public static void main(String[] args) {
        undoEach();
        undoTwelve();
        undoSeed();
        forgotten();
        image();
        imageOfLaw();
        counts();
        CHECK.close();
    }

    private static SharedCup bound() {
        return Check.of("person at 0;person at 0;person at 2;flour ac;bond 0 1 9 till 300;likes 0 012;likes 2 340");
    }

    private static void undoes(SharedCup x, String name, boolean changes, Check.Call act) {
        String before = Check.all(x);
        int acts = x.count(12);
        act.run();
        CHECK.is("acts behind " + name, x.count(12), acts + 1);
        CHECK.same(name + " changes something", !Check.all(x).equals(before), changes);
        CHECK.yes("undo of " + name, x.undo());
        CHECK.same("all as ahead of " + name, Check.all(x), before);
        CHECK.is("acts ahead of " + name, x.count(12), acts);
    }

    private static void undoEach() {
        SharedCup x = bound();
        x.days(3);
        undoes(x, "share", true, () -> x.share(7, 0));
        undoes(x, "share of nothing", false, () -> x.share(7, 3));
        undoes(x, "wash", true, () -> x.wash(0, 1));
        undoes(x, "wash of nothing", false, () -> x.wash(0, 2));
        undoes(x, "go", true, () -> x.go(2, 4));
        undoes(x, "go nowhere", false, () -> x.go(2, 2));
        undoes(x, "strew", true, () -> x.strew(5, true));
        undoes(x, "strew what is", false, () -> x.strew(0, true));
        undoes(x, "sweep", true, () -> x.strew(0, false));
        undoes(x, "wed", true, () -> x.wed(1, 2));
        undoes(x, "clear", true, () -> x.clear(1));
        undoes(x, "clear what is", false, () -> x.clear(2));
        undoes(x, "days", true, () -> x.days(60));
        CHECK.argument("share(1, 0)", () -> x.share(1, 0));
        CHECK.argument("days(61)", () -> x.days(61));
        CHECK.index("go(0, 6)", () -> x.go(0, 6));
        CHECK.index("strew(6)", () -> x.strew(6, true));
        CHECK.index("clear(3)", () -> x.clear(3));
        CHECK.argument("wash(1, 1)", () -> x.wash(1, 1));
        CHECK.argument("wed(1, 1)", () -> x.wed(1, 1));
        CHECK.is("what throws is no act", x.count(12), 1);
    }

    private static void undoTwelve() {
        SharedCup x = Check.of("person at 0");
        int[] rooms = {1, 2, 3, 4, 5, 0, 1, 2, 3, 4, 5, 0, 1, 2, 3};
        for (int room : rooms) {
            x.go(0, room);
        }
        CHECK.is("12 are remembered", x.count(12), 12);
        for (int k = rooms.length - 2; k >= 2; k--) {
            CHECK.yes("undo", x.undo());
            CHECK.is("ROOM", x.person(0, 0), rooms[k]);
        }
        CHECK.is("none is left", x.count(12), 0);
        CHECK.no("undo of none", x.undo());
        CHECK.is("nothing happens", x.person(0, 0), 3);
        x.go(0, 5);
        x.go(0, 4);
        CHECK.yes("undo", x.undo());
        x.go(0, 1);
        CHECK.yes("undo behind another", x.undo());
        CHECK.is("ROOM", x.person(0, 0), 5);
        CHECK.yes("undo of the first", x.undo());
        CHECK.is("ROOM at last", x.person(0, 0), 3);
    }

    private static void undoSeed() {
        SharedCup x = bound();
        x.go(2, 3);
        x.seed(77);
        CHECK.yes("undo", x.undo());
        CHECK.is("SEED as ahead of the act", x.seed(5), 1);
        x.days(2);
        CHECK.yes("undo of days", x.undo());
        CHECK.is("SEED as ahead of the days", x.seed(5), 5);
    }

    private static void forgotten() {
        SharedCup x = bound();
        x.go(0, 1);
        x.go(0, 2);
        CHECK.argument("a wrong text", () -> Check.house(x, "day"));
        CHECK.argument("a wrong law", () -> Check.law(x, "day"));
        CHECK.is("acts stay", x.count(12), 2);
        x.image();
        CHECK.is("acts stay with an image", x.count(12), 2);
        Check.house(x, "");
        CHECK.is("a text: none are remembered", x.count(12), 0);
        CHECK.no("undo of none", x.undo());
        x.go(0, 3);
        Check.law(x, "");
        CHECK.is("a law: none are remembered", x.count(12), 0);
        x.go(0, 4);
        CHECK.yes("back", x.back());
        CHECK.is("going back: none are remembered", x.count(12), 0);
        CHECK.no("undo of none then", x.undo());
        CHECK.is("ROOM", x.person(0, 0), 2);
    }

    private static void image() {
        SharedCup x = bound();
        x.go(0, 3);
        CHECK.no("back without", x.back());
        CHECK.is("nothing happens", x.count(12), 1);
        x.days(5);
        x.seed(12);
        x.image();
        String before = Check.all(x);
        x.days(60);
        x.share(7, 2);
        x.wed(0, 1);
        x.strew(1, true);
        Check.house(x, "person at 5;binds 2;lasts 3;day 2;likes 1 9999");
        CHECK.yes("back", x.back());
        CHECK.same("all as it was", Check.all(x), before);
        CHECK.is("a person that is none any more", x.count(0), 3);
        Check.house(x, "person at 1");
        CHECK.is("a new one likes nobody", x.liking(3, 0), 0);
        CHECK.is("and is not liked", x.liking(1, 3), 0);
        x.days(9);
        CHECK.yes("back again", x.back());
        CHECK.same("all as it was, again", Check.all(x), before);
        x.go(1, 5);
        CHECK.yes("undo", x.undo());
        x.go(1, 4);
        x.image();
        x.undo();
        CHECK.yes("back to the later one", x.back());
        CHECK.is("ROOM", x.person(1, 0), 4);
    }

    private static void imageOfLaw() {
        SharedCup x = bound();
        x.image();
        Check.law(x, "bind 1;suspect 9 if bound");
        CHECK.is("SUSPECTS", x.told(0, 1, 0, 2, 2), 9);
        CHECK.yes("back", x.back());
        CHECK.is("no LAW any more", x.count(2), -1);
        CHECK.is("SUSPECTS without", x.told(0, 1, 0, 2, 2), 5);
        Check.law(x, "bind 2 if one < 1;suspect 3 if bound;suspect 4");
        x.image();
        Check.law(x, "");
        CHECK.is("SUSPECTS by nothing", x.told(0, 1, 0, 2, 2), 0);
        CHECK.yes("back to THE LAW", x.back());
        CHECK.is("LINES", x.count(2), 3);
        CHECK.is("SUSPECTS by it", x.told(0, 1, 0, 2, 2), 7);
        CHECK.is("BINDS by it", x.told(0, 2, 0, 2, 0), 7);
        CHECK.is("BINDS others by it", x.told(1, 2, 0, 2, 0), 5);
    }

    private static void counts() {
        SharedCup x = Check.of("person at 0;person at 0;person at 0;person at 1;wed 0 3", "flour af;binds 3;lasts 44;day 6",
            "bond 0 1 9 till 99;bond 1 2 9 till 99;bond 0 2 9 till 7");
        Check.law(x, "suspect 2;bind 1");
        x.days(2);
        x.go(3, 4);
        int[] due = {4, 3, 2, 8, 33, 3, 44, 20, 1, 2, 5, 5, 2};
        for (int what = 0; what < due.length; what++) {
            CHECK.is("count(" + what + ")", x.count(what), due[what]);
        }
        CHECK.is("count(13)", x.count(13), -1);
        CHECK.is("count(-1)", x.count(-1), -1);
        CHECK.is("count(MAX)", x.count(Integer.MAX_VALUE), -1);
    }
}

/** Promise 1: "An empty house." Every call of a new object, where there is nobody. */
public final class NobodyTest {
    private static final Check CHECK = new Check();

    public static void main(String[] args) {
        answers();
        acts();
        refusals();
        imageOfNothing();
        CHECK.close();
    }

    private static SharedCup nobody() {
        return new SharedCup();
    }

    private static void answers() {
        CHECK.is("NONE", SharedCup.NONE, -1);
        CHECK.is("feed()", nobody().feed(0, 0, 0, 0, 0), 20);
        CHECK.yes("end(0)", nobody().end(0));
        CHECK.no("end(1)", nobody().end(1));
        CHECK.is("house()", nobody().house(), 1);
        CHECK.is("law()", nobody().law(), 0);
        CHECK.is("fault()", nobody().fault(), -1);
        CHECK.is("circles()", nobody().circles(), 0);
        CHECK.is("ends()", nobody().ends(), 0);
        CHECK.is("free(0)", nobody().free(0), 0);
        CHECK.is("free(9999)", nobody().free(9999), 0);
        CHECK.is("secrets()", nobody().secrets(), 0);
        CHECK.is("widest(0, 2)", nobody().widest(0, 2), -1);
        CHECK.is("widest(3, 8)", nobody().widest(3, 8), -1);
        CHECK.is("lovers(false)", nobody().lovers(false), 0);
        CHECK.is("lovers(true)", nobody().lovers(true), -1);
        CHECK.is("steady(NONE)", nobody().steady(-1), 1);
        CHECK.is("fondest()", nobody().fondest(), 0);
        CHECK.is("tell()", nobody().tell(), 0);
        CHECK.is("hub()", nobody().hub(), -1);
        CHECK.is("drank(false)", nobody().drank(false), 1);
        CHECK.is("drank(true)", nobody().drank(true), 0);
        CHECK.is("look()", nobody().look(), -1);
        CHECK.is("trap(1, false)", nobody().trap(1, false), 1);
        CHECK.is("trap(6, true)", nobody().trap(6, true), 0);
        CHECK.is("calm(0)", nobody().calm(0), 0);
        CHECK.is("calm(400)", nobody().calm(400), 400);
        CHECK.is("trial(60, false)", nobody().trial(60, false), 0);
        CHECK.is("trial(60, true)", nobody().trial(60, true), 0);
        CHECK.is("span(60, false)", nobody().span(60, false), 0);
        CHECK.is("span(60, true)", nobody().span(60, true), 0);
        CHECK.is("log(0, 0)", nobody().log(0, 0), -1);
        CHECK.is("seed(0)", nobody().seed(0), 1);
        CHECK.no("undo()", nobody().undo());
        CHECK.no("back()", nobody().back());
        int[] counts = {0, 0, -1, 0, 0, 5, 100, 0, 0, 0, 0, 0, 0};
        for (int what = 0; what < counts.length; what++) {
            CHECK.is("count(" + what + ")", nobody().count(what), counts[what]);
        }
    }

    private static void acts() {
        SharedCup x = nobody();
        CHECK.yes("strew(5, true)", x.strew(5, true));
        CHECK.is("days(60)", x.days(60), 0);
        CHECK.is("DAY", x.count(3), 60);
        CHECK.is("no DRAWS", x.seed(1), 1);
        CHECK.is("ends() is now", x.ends(), 60);
        CHECK.is("acts", x.count(12), 2);
        CHECK.yes("undo of days", x.undo());
        CHECK.is("DAY", x.count(3), 0);
        CHECK.yes("undo of strew", x.undo());
        CHECK.is("FLOUR", x.count(4), 0);
        CHECK.no("no more", x.undo());
    }

    private static void refusals() {
        for (int person : new int[] {0, 1, -1, 7, 8, Integer.MIN_VALUE, Integer.MAX_VALUE}) {
            CHECK.index("person", () -> nobody().person(person, 0));
            CHECK.index("liking", () -> nobody().liking(person, 0));
            CHECK.index("bond", () -> nobody().bond(0, person, false));
            CHECK.index("told", () -> nobody().told(person, person, 0, 2, 0));
            CHECK.index("wash", () -> nobody().wash(person, 1));
            CHECK.index("go", () -> nobody().go(person, 0));
            CHECK.index("wed", () -> nobody().wed(person, person));
            CHECK.index("clear", () -> nobody().clear(person));
            CHECK.index("parts", () -> nobody().parts(person, person));
            CHECK.index("between", () -> nobody().between(person, person));
            CHECK.index("way", () -> nobody().way(person, 0));
            CHECK.index("unseen", () -> nobody().unseen(person, person));
            CHECK.index("oath", () -> nobody().oath(person, 0));
            CHECK.index("shortest", () -> nobody().shortest(person));
            CHECK.index("alibi", () -> nobody().alibi(person));
            CHECK.index("odds", () -> nobody().odds(person, person));
            CHECK.index("ahead", () -> nobody().ahead(person, 0, false));
            CHECK.index("led", () -> nobody().led(person, false));
            if (person != SharedCup.NONE) {
                CHECK.index("steady", () -> nobody().steady(person));
            }
        }
        CHECK.argument("share", () -> nobody().share(-1, 0));
        CHECK.argument("would", () -> nobody().would(-1, 0));
        CHECK.argument("drank", () -> {
            SharedCup x = nobody();
            Check.put(x, Check.bytes(0, 0, 0));
            x.drank(false);
        });
    }

    private static void imageOfNothing() {
        SharedCup x = nobody();
        x.image();
        CHECK.yes("back()", x.back());
        Check.house(x, "person at 3");
        CHECK.yes("back() again", x.back());
        CHECK.is("nobody", x.count(0), 0);
        CHECK.index("person(0, 0)", () -> x.person(0, 0));
    }
}

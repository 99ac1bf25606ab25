/** Promises 26 to 31: what was told and who may have begun it, slots, counts. */
public final class EarsTest {
    private static final int NONE = Check.NONE;
    private static final int[] NO_NUMBERS = {-1, 9, Integer.MAX_VALUE, Integer.MIN_VALUE};

    private EarsTest() {
    }

    private static void telling() {
        HillDrums x = Check.land(3, "news n at a;");
        for (int wrong : NO_NUMBERS) {
            Check.due("tell of no such hill", x.tell(wrong, 0, 0), NONE);
            Check.due("tell of no such news", x.tell(0, wrong, 0), NONE);
            Check.due("tell of no such day", x.tell(0, 0, wrong == 9 ? 100 : wrong), NONE);
        }
        Check.due("none told", x.count(11), 0);
        Check.due("forget nothing", x.forget(), 0);
        for (int i = 0; i < 20; i++) {
            Check.due("tell", x.tell(i % 3, 0, i == 19 ? 99 : i), i);
        }
        Check.due("the 21st", x.tell(0, 0, 0), NONE);
        Check.due("told", x.count(11), 20);
        Check.due("nothing else happened", x.count(2) + x.count(4) + x.count(10), 0);
        Check.due("forget", x.forget(), 20);
        Check.due("told", x.count(11), 0);
        Check.due("tell again", x.tell(2, 0, 99), 0);
        x.night();
        x.undo();
        x.hold(0);
        x.restore(0);
        Check.due("told it stays", x.count(11), 1);
    }

    private static void beginners() {
        HillDrums x = Check.land(4, "news n at a; news m at c;");
        Check.due("nothing is known", x.beginners(0, 0), 15);
        x.tell(1, 0, 0);
        x.tell(2, 0, 1);
        x.tell(3, 1, 0);
        Check.due("of nothing yet", x.beginners(0, 0), 15);
        Check.due("b on day 0: it, or who tells it", x.beginners(0, 1), 7);
        Check.due("and c on day 1: nobody", x.beginners(0, 2), 0);
        Check.due("of m nothing yet", x.beginners(1, 2), 15);
        Check.due("d on day 0", x.beginners(1, 3), 12);
        for (int wrong : NO_NUMBERS) {
            Check.due("of no such news", x.beginners(wrong, 0), NONE);
            Check.due("by no such k", x.beginners(0, wrong), NONE);
        }
        Check.due("by one too many", x.beginners(0, 4), NONE);
        x.forget();
        Check.due("by what is forgotten", x.beginners(0, 1), NONE);
        x.run(50);
        Check.due("later", x.beginners(0, 0), 15);
        x.tell(0, 0, 2);
        Check.due("a on day 2: d began it, c knew it on day 0, b on day 1", x.beginners(0, 1), 8);
        x.tell(1, 0, 1);
        Check.due("b on day 1", x.beginners(0, 2), 8);
        x.tell(3, 0, 0);
        Check.due("d in the beginning", x.beginners(0, 3), 8);
        x.tell(3, 0, 1);
        Check.due("not on day 1", x.beginners(0, 4), 0);
        Check.due("nothing happened", x.count(2), 50);
    }

    private static void beginnersAsByTheText() {
        // b says m first on each day by the order of any; so a never says n, and of n nothing comes from a.
        HillDrums x = Check.land(3, "news m at a; news n at c; order any;");
        x.tell(2, 1, 0);
        Check.due("c, or b? b hears a say m", x.beginners(1, 1), 4);
        x = Check.land(3, "news m at a; news n at c; order topic;");
        x.tell(2, 1, 0);
        Check.due("b, too", x.beginners(1, 1), 6);
        x = Check.land(2, "news n at a; hears = day - 98;");
        x.tell(1, 0, 99);
        Check.due("on the 99th day", x.beginners(0, 1), 1);
        x = Check.land(2, "news n at a; hears = day - 97;");
        x.tell(1, 0, 99);
        Check.due("not on the 99th", x.beginners(0, 1), 0);
        x = Check.land(3, "news n at a; sleeper b n 1;");
        x.tell(2, 0, 0);
        Check.due("by night, too", x.beginners(0, 1), 7);
        x = Check.land(3, "news n at a; sleeper b n 1;");
        x.drum(0, 0, false);
        x.run(3);
        x.tell(0, 0, 0);
        x.tell(0, 0, 1);
        Check.due("two days at once", x.beginners(0, 2), 0);
        Check.due("a or b", x.beginners(0, 1), 7);
    }

    private static void holding() {
        HillDrums x = Check.land(3, "news n at a; news m at c; order free;");
        for (int wrong : new int[] {-1, 3, Integer.MAX_VALUE, Integer.MIN_VALUE}) {
            Check.due("hold no slot", x.hold(wrong), false);
            Check.due("restore no slot", x.restore(wrong), false);
        }
        Check.due("slots", x.count(12), 0);
        x.drum(0, 0, false);
        x.night();
        x.drum(1, 0, true);
        x.drum(0, 0, true);
        Check.due("hold", x.hold(2), true);
        Check.due("slots", x.count(12), 1);
        Check.due("things done", x.count(10), 4);
        Check.due("restore another", x.restore(0), false);
        Check.due("things done still", x.count(10), 4);
        x.run(7);
        x.drum(2, 1, false);
        Check.due("restore", x.restore(2), true);
        Check.due("nothing can be undone", x.undo(), false);
        Check.due("day", x.count(2), 1);
        Check.due("drums of the day", x.count(3), 2);
        Check.due("in all", x.count(4), 3);
        Check.due("known", x.count(13), 4);
        Check.due("of the first", x.drummed(0, 2), 1);
        Check.due("b clashes", x.clashes(0), 2);
        Check.due("since", x.news(2, 0, 1), 1);
        Check.due("from", x.news(2, 0, 2), 1);
        Check.due("first", x.news(2, 0, 3), 1);
        x.drum(1, 0, false);
        Check.due("what was heard ahead counts on", x.clashes(0), 7);
        Check.due("restore again", x.restore(2), true);
        Check.due("that stays there", x.clashes(0), 2);
        x.night();
        Check.due("hold over it", x.hold(2), true);
        Check.due("slots", x.count(12), 1);
        x.undo();
        Check.due("undone", x.count(2), 1);
        Check.due("restore", x.restore(2), true);
        Check.due("day", x.count(2), 2);
        Check.due("hold more", x.hold(0) && x.hold(1), true);
        Check.due("slots", x.count(12), 3);
        Check.due("a wrong text", Check.read(x, "hill"), 1);
        Check.due("slots", x.count(12), 3);
        Check.due("another text", Check.read(x, ""), 0);
        Check.due("slots", x.count(12), 0);
        Check.due("restore", x.restore(1), false);
    }

    private static void sinceAndFromAreHeld() {
        HillDrums x = Check.land(3, "news n at a; hears = if from < 2 then 10 - far else 1;");
        x.hold(0);
        x.run(1);
        x.hold(1);
        x.restore(0);
        x.night();
        x.night();
        x.drum(0, 0, true);
        x.night();
        x.drum(1, 0, true);
        Check.due("b since day 2", x.news(1, 0, 1), 2);
        x.restore(1);
        Check.due("b since day 0", x.news(1, 0, 1), 0);
        Check.due("b said first", x.news(1, 0, 3), 0);
        x = Check.told("hill a 0 0; hill b 0 0; hill c 0 0; news n at a; hears = if day < 1 then to * (2 - to) else to / 2;");
        x.hold(0);
        x.drum(0, 0, false);
        x.night();
        x.drum(1, 0, false);
        x.hold(2);
        Check.due("c from b", x.news(2, 0, 2), 1);
        x.restore(0);
        x.night();
        x.drum(0, 0, true);
        Check.due("c from a", x.news(2, 0, 2), 0);
        x.restore(2);
        Check.due("c from b again", x.news(2, 0, 2), 1);
        Check.due("said", x.news(2, 0, 3), 0);
    }

    private static void lawfulnessIsHeld() {
        HillDrums x = Check.land(2, "news n at a; order topic;");
        x.drum(0, 0, false);
        x.hold(0);
        x.night();
        Check.due("lawful on the next day", x.may(1, 0, false), 1);
        x.restore(0);
        Check.due("not on that day", x.may(1, 0, false), 0);
    }

    private static void counting() {
        HillDrums x = Check.land(5, "news n at a; news m at b; wind 1 2 3 4; fog 5 6; order other; sleeper a n 2; sleeper b m 3; sleeper c n 1;");
        x.drum(0, 0, false);
        x.drum(1, 1, false);
        x.hold(1);
        x.tell(0, 0, 5);
        x.feed(0, 0, 0, 0, 0);
        int[] due = {5, 2, 0, 2, 2, 3, 3, 4, 2, 20, 2, 1, 1, 5};
        for (int what = 0; what < due.length; what++) {
            Check.due("count " + what, x.count(what), due[what]);
        }
        x.night();
        int[] night = {5, 2, 1, 0, 4, 3, 3, 4, 2, 20, 3, 1, 1, 5};
        for (int what = 0; what < night.length; what++) {
            Check.due("count " + what + " behind a night", x.count(what), night[what]);
        }
        for (int wrong : new int[] {-1, 14, Integer.MAX_VALUE, Integer.MIN_VALUE}) {
            Check.due("count " + wrong, x.count(wrong), NONE);
        }
    }

    public static void main(String[] args) {
        telling();
        beginners();
        beginnersAsByTheText();
        holding();
        sinceAndFromAreHeld();
        lawfulnessIsHeld();
        counting();
        Check.end();
    }
}

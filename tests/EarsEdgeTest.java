/** Promises 26 to 31 at each limit that the document names, and an object's last calls. */
public final class EarsEdgeTest {
    private static final int NONE = Check.NONE;
    private static final int MOST = Integer.MAX_VALUE;
    private static final int LEAST = Integer.MIN_VALUE;

    private EarsEdgeTest() {
    }

    private static void tellOfNoSuchOnes() {
        HillDrums x = Check.land(6, "news n at a; news m at a; news o at a; news p at a;");
        for (int wrong : new int[] {-1, 100, 101, MOST, LEAST}) {
            Check.due("no such day", x.tell(0, 0, wrong), NONE);
            Check.due("no such hill", x.tell(wrong == 100 ? 6 : wrong, 0, 0), NONE);
            Check.due("no such news", x.tell(0, wrong == 100 ? 4 : wrong, 0), NONE);
        }
        Check.due("nothing is told", x.count(11), 0);
        Check.due("the first day", x.tell(0, 0, 0), 0);
        Check.due("the last day, hill and news", x.tell(5, 3, 99), 1);
        Check.due("day 98", x.tell(5, 3, 98), 2);
        Check.due("told", x.count(11), 3);
    }

    private static void tell20() {
        HillDrums x = Check.land(2, "news n at a;");
        for (int round = 0; round < 2; round++) {
            for (int i = 0; i < 20; i++) {
                Check.due("number", x.tell(i % 2, 0, 0), i);
                Check.due("told", x.count(11), i + 1);
                Check.due("by all", x.beginners(0, i + 1), 3);
                Check.due("by one more", x.beginners(0, i + 2), NONE);
            }
            for (int i = 0; i < 3; i++) {
                Check.due("the 21st", x.tell(0, 0, 1), NONE);
                Check.due("nothing happens", x.count(11), 20);
            }
            Check.due("what was told holds", x.beginners(0, 20), 3);
            Check.due("forget", x.forget(), 20);
            Check.due("nothing is told", x.count(11), 0);
            Check.due("forget nothing", x.forget(), 0);
        }
        Check.due("numbered from 0 on", x.tell(1, 0, 5), 0);
        Check.due("forget one", x.forget(), 1);
    }

    private static void beginnersByK() {
        HillDrums x = Check.land(3, "news n at a; news m at c; hears = 0;");
        for (int hill = 0; hill < 3; hill++) {
            x.tell(hill, hill % 2, 0);
        }
        int[] byN = {7, 1, 1, 0};
        int[] byM = {7, 7, 2, 2};
        for (int k = 0; k < 4; k++) {
            Check.due("of n by " + k, x.beginners(0, k), byN[k]);
            Check.due("of m by " + k, x.beginners(1, k), byM[k]);
        }
        for (int wrong : new int[] {-1, 4, 20, 21, MOST, LEAST}) {
            Check.due("by " + wrong, x.beginners(0, wrong), NONE);
            Check.due("of news " + wrong, x.beginners(wrong == 4 ? 2 : wrong, 0), NONE);
        }
        x.forget();
        Check.due("by none", x.beginners(0, 0), 7);
        Check.due("by one of none", x.beginners(0, 1), NONE);
        for (int hills = 1; hills <= 6; hills++) {
            Check.due("any of " + hills, Check.land(hills, "news n at a;").beginners(0, 0), (1 << hills) - 1);
        }
        x = Check.land(6, "news n at a; news m at a; news o at a; news p at f; hears = 0;");
        x.tell(5, 3, 0);
        Check.due("the last of all", x.beginners(3, 1), 32);
    }

    /** Each day there is: b first hears on that day, is TOLD to have known it that day, the day ahead, the day behind. */
    private static void beginnersByDays() {
        for (int day : new int[] {0, 1, 50, 98, 99}) {
            for (int off = -1; off <= 1; off++) {
                if (day + off >= 0 && day + off <= 99) {
                    HillDrums x = Check.land(2, "news n at b; hears = to * (day + 1 - " + day + ");");
                    Check.due("tell", x.tell(1, 0, day + off), 0);
                    int due = off == 0 ? 1 : 0;
                    Check.due("b on day " + (day + off), x.beginners(0, 1), due | (day + off == 0 ? 2 : 0));
                    x.night();
                    x.drum(1, 0, true);
                    Check.due("whatever was done", x.beginners(0, 1), due | (day + off == 0 ? 2 : 0));
                }
            }
        }
        HillDrums x = Check.land(2, "news n at a; hears = day - 99;");
        x.tell(1, 0, 99);
        Check.due("not by day 99", x.beginners(0, 1), 0);
        x.tell(0, 0, 0);
        Check.due("not by day 99", x.beginners(0, 2), 0);
    }

    /** All else as by the text: other NEWS where they were told, SLEEPERS, ORDER, day 0, and no DRUM of today. */
    private static void allElseAsByTheText() {
        HillDrums x = Check.land(3, "news n at a; news m at b; order any;");
        x.tell(2, 0, 0);
        // b says m on each day but where it heard a say n ahead of it; n itself it would say first.
        Check.due("b or c", x.beginners(0, 1), 6);
        x = Check.land(3, "news n at a; news m at a; order any; sleeper b n 2;");
        x.tell(2, 0, 0);
        Check.due("a says n first, b by night", x.beginners(0, 1), 7);
        x = Check.land(3, "news m at a; news n at a; order any; sleeper b n 2;");
        x.tell(2, 1, 0);
        Check.due("a says m, then n, b by night", x.beginners(1, 1), 7);
        x = Check.land(2, "news n at a;");
        for (int i = 0; i < 60; i++) {
            x.drum(0, 0, false);
        }
        x.tell(1, 0, 0);
        Check.due("no drum of today", x.beginners(0, 1), 3);
        x.tell(0, 0, 0);
        Check.due("each tells the other on day 0", x.beginners(0, 2), 3);
        x.tell(0, 0, 1);
        Check.due("two days of one and the same", x.beginners(0, 3), 0);
        Check.due("the first two", x.beginners(0, 2), 3);
    }

    private static void slots() {
        for (int slot = 0; slot < 3; slot++) {
            HillDrums x = Check.land(3, "news n at a;");
            for (int i = 0; i < 3; i++) {
                Check.due("restore of nothing", x.restore(i), false);
            }
            x.drum(0, 0, true);
            Check.due("hold", x.hold(slot), true);
            Check.due("one", x.count(12), 1);
            Check.due("hold again", x.hold(slot), true);
            Check.due("one still", x.count(12), 1);
            Check.due("it can be undone still", x.count(10), 1);
            x.night();
            for (int i = 0; i < 3; i++) {
                Check.due("restore " + i, x.restore(i), i == slot);
            }
            Check.due("the day", x.count(2), 0);
            Check.due("the drum", x.drummed(0, 2), 1);
            Check.due("nothing can be undone", x.count(10), 0);
            Check.due("undo", x.undo(), false);
            Check.due("it stays there", x.restore(slot), true);
            Check.due("one", x.count(12), 1);
        }
        HillDrums x = Check.land(3, "news n at a;");
        for (int slot = 0; slot < 3; slot++) {
            Check.due("hold", x.hold(slot), true);
            Check.due("slots", x.count(12), slot + 1);
            x.run(1);
        }
        for (int slot = 2; slot >= 0; slot--) {
            Check.due("restore", x.restore(slot), true);
            Check.due("each its own", x.count(2), slot);
        }
        for (int wrong : new int[] {-1, 3, 32, 33, MOST, LEAST}) {
            Check.due("hold no such one", x.hold(wrong), false);
            Check.due("restore no such one", x.restore(wrong), false);
        }
        Check.due("slots", x.count(12), 3);
    }

    private static void refusedCalls() {
        for (int wrong : new int[] {-1, 3, 32, 33, MOST, LEAST}) {
            Seen.unchanged("hold " + wrong, Seen::busy, x -> Check.due("hold", x.hold(wrong), false));
            Seen.unchanged("restore " + wrong, Seen::busy, x -> Check.due("restore", x.restore(wrong), false));
            Seen.unchanged("count " + wrong, Seen::busy, x -> Check.due("count", x.count(wrong == 3 || wrong == 32 || wrong == 33 ? 14 : wrong), NONE));
        }
        Seen.unchanged("restore where nothing is held", Seen::busy, x -> Check.due("restore", x.restore(0), false));
        Seen.unchanged("restore where nothing is held", Seen::busy, x -> Check.due("restore", x.restore(2), false));
        Seen.unchanged("tell of no such day", Seen::busy, x -> Check.due("tell", x.tell(0, 0, 100), NONE));
        Seen.unchanged("tell of no such hill", Seen::busy, x -> Check.due("tell", x.tell(4, 0, 0), NONE));
        Seen.unchanged("tell of no such news", Seen::busy, x -> Check.due("tell", x.tell(0, 2, 0), NONE));
        Seen.unchanged("beginners", Seen::busy, x -> Check.due("beginners", x.beginners(0, 3), NONE));
        Seen.unchanged("beginners", Seen::busy, x -> Check.due("beginners", x.beginners(0, 2) == NONE, false));
        Seen.unchanged("held, gone on from, held", Seen::busy, x -> {
            x.tell(0, 0, 0);
            x.forget();
            x.tell(1, 0, 0);
            x.tell(2, 0, 1);
        });
    }

    /** What goes on from a SLOT is all of it: what may be said, who heard what, what is of the day and in all. */
    private static void allGoesOn() {
        HillDrums x = Seen.busy();
        HillDrums y = Seen.busy();
        Check.due("hold", x.hold(2), true);
        Check.due("hold", y.hold(2), true);
        x.run(7);
        x.drum(0, 0, true);
        x.drum(2, 1, false);
        x.night();
        Check.due("restore", x.restore(2), true);
        Check.due("restore", y.restore(2), true);
        Seen.same("gone on from", x, y);
        Check.due("drum", x.drum(3, 1, false), y.drum(3, 1, false));
        Check.due("run", x.run(2), y.run(2));
        Check.due("drum", x.drum(1, 0, true), y.drum(1, 0, true));
        Seen.sameToTheEnd("gone on", x, y);
    }

    private static void clashesGoOn() {
        for (boolean first : new boolean[] {false, true}) {
            HillDrums x = Check.land(2, "news n at a;");
            x.drum(0, 0, first);
            x.hold(0);
            x.drum(0, 0, !first);
            Check.due("b clashes", x.clashes(0), 2);
            x.restore(0);
            Check.due("not then", x.clashes(0), 0);
            x.drum(0, 0, !first);
            Check.due("it heard the other way ahead", x.clashes(0), 2);
            x.undo();
            Check.due("undone", x.clashes(0), 0);
        }
    }

    private static void counts() {
        HillDrums x = Check.land(6, "news n at a; news m at b; news o at c; news p at f; hears = 1; order free;"
            + "wind 1 2 3 4 5 6 7 8 9 10 11 12; fog 1 2 3 4 5 6 7 8 9 10 11 12;" + "sleeper f p 9;".repeat(4));
        x.run(1);
        for (int i = 0; i < 60; i++) {
            Check.due("drum", x.drum(5, 3, i % 2 == 0), 5);
        }
        for (int i = 0; i < 3; i++) {
            x.hold(i);
        }
        for (int i = 0; i < 20; i++) {
            x.tell(5, 3, 99);
        }
        for (int i = 0; i < 100; i++) {
            x.feed(i, i, i, i, i);
        }
        // Of day 0: a says n, b n and m, c n, m and o, d, e and f these; f says p, too, then four sleepers.
        int[] most = {6, 4, 1, 60, 1 + 2 + 3 + 3 + 3 + 4 + 4 + 60, 0, 4, 12, 12, 2000, 40, 20, 3, 24};
        for (int what = 0; what < most.length; what++) {
            Check.due("count " + what, x.count(what), most[what]);
        }
        for (int wrong : new int[] {-1, 14, 15, MOST, LEAST}) {
            Check.due("count " + wrong, x.count(wrong), NONE);
        }
        String[] orders = {"free", "topic", "any", "other"};
        for (int order = 0; order < 4; order++) {
            Check.due("order", Check.told("order " + orders[order] + ";").count(5), order);
        }
    }

    /** The answers of an object's last calls are as due as those of the first. */
    private static void calls512() {
        HillDrums x = new HillDrums();
        String text = "hill a 0 0;hill b 0 5;hill c 0 10;news n at a;order free;sleeper a n 9;";
        int calls = 0;
        for (int at = 0; at < text.length(); at += 20) {
            int[] w = new int[5];
            for (int i = 0; i < 20; i++) {
                w[i / 4] = w[i / 4] << 8 | (at + i < text.length() ? text.charAt(at + i) : ' ');
            }
            x.feed(w[0], w[1], w[2], w[3], w[4]);
            calls++;
        }
        Check.due("read", x.read(), 0);
        calls++;
        int days = 0;
        while (calls < 505) {
            days += 100;
            Check.due("run", x.run(100), days);
            calls++;
        }
        int nights = 0;
        for (int day = days; day < days + 200; day++) {
            nights += day % 9 == 0 ? 1 : 0;
        }
        Check.due("call 506: drums in all", x.count(4), 3 * days + (days + 8) / 9);
        Check.due("call 507: hold", x.hold(2), true);
        Check.due("call 508: drum", x.drum(1, 0, true), 2);
        Check.due("call 509: restore", x.restore(2), true);
        Check.due("call 510: talk", x.talk(200), 600 + nights);
        Check.due("call 511: clashes", x.clashes(0), 0);
        Check.due("call 512: night", x.night(), days + 1);
    }

    public static void main(String[] args) {
        tellOfNoSuchOnes();
        tell20();
        beginnersByK();
        beginnersByDays();
        allElseAsByTheText();
        slots();
        refusedCalls();
        allGoesOn();
        clashesGoOn();
        counts();
        calls512();
        Check.end();
    }
}

/** Promises 19 to 23, and 25: plans, loopholes, and how many DRUMS are enough. */
public final class PlanTest {
    private static final int NONE = Check.NONE;
    private static final int[] NO_NUMBERS = {-1, 9, Integer.MAX_VALUE, Integer.MIN_VALUE};

    private PlanTest() {
    }

    private static void plans(HillDrums x, int hill, int soonest, int all, int drums) {
        Check.due("soonest to " + hill, x.soonest(0, hill), soonest);
        Check.due("all", x.all(0), all);
        Check.due("drums", x.drums(0), drums);
    }

    private static void inARow() {
        HillDrums x = Check.land(4, "news n at a; news m at c;");
        plans(x, 3, 3, 3, 3);
        Check.due("it knows it", x.soonest(0, 0), 0);
        Check.due("a of m", x.soonest(1, 0), 2);
        Check.due("all of m", x.all(1), 2);
        Check.due("drums of m", x.drums(1), 2);
        for (int wrong : NO_NUMBERS) {
            Check.due("no such news", x.soonest(wrong, 0), NONE);
            Check.due("no such hill", x.soonest(0, wrong), NONE);
            Check.due("no such news", x.all(wrong), NONE);
            Check.due("no such news", x.drums(wrong), NONE);
        }
        x.drum(0, 0, true);
        plans(x, 3, 2, 2, 2);
        plans(Check.land(4, "news n at a; hears = 1;"), 3, 1, 1, 1);
        plans(Check.land(1, "news n at a;"), 0, 0, 0, 0);
        plans(Check.land(2, "news n at a; hears = 0;"), 1, -2, -2, -2);
        plans(Check.land(3, "news n at a; hears = " + Check.only("1") + ";"), 1, 1, -2, -2);
        plans(Check.land(3, "news n at a; order any; sleeper a n 1;"), 2, 2, 2, 2);
    }

    private static void days() {
        plans(Check.land(2, "news n at a; hears = 1 - day;"), 1, -2, -2, -2);
        plans(Check.land(2, "news n at a; hears = 2 - day;"), 1, 1, 1, 1);
        plans(Check.land(2, "news n at a; hears = day - 1;"), 1, 2, 2, 1);
        plans(Check.land(2, "news n at a; hears = day - 59;"), 1, 60, 60, 1);
        HillDrums x = Check.land(3, "news n at a; hears = if day < 2 then 0 else if 2 < day then 0 else 10 - far;");
        plans(x, 2, -2, -2, -2);
        plans(x, 1, 2, -2, -2);
        x = Check.land(2, "news n at a; hears = day - 60;");
        plans(x, 1, -2, -2, -2);
        x.night();
        plans(x, 1, 60, 60, 1);
    }

    /** Two that hear each other cannot both say it on a day by topic and any; if one hears the other, it goes ahead. */
    private static void whoMayOnADay() {
        String[] orders = {"free", "topic", "any", "other"};
        int[] days = {1, 2, 2, 1};
        for (int order = 0; order < 4; order++) {
            String both = "hears = if day < 1 then to * (2 - to) else " + Check.only("1 10 2 13") + ";order " + orders[order] + ";";
            HillDrums x = Check.land(4, "news n at a;" + both);
            x.drum(0, 0, false);
            Check.due("days by " + orders[order], x.all(0), days[order]);
            Check.due("drums by " + orders[order], x.drums(0), 2);
            String one = "hears = if day < 1 then to * (2 - to) else " + Check.only("1 2 13") + ";order " + orders[order] + ";";
            x = Check.land(4, "news n at a;" + one);
            x.drum(0, 0, false);
            Check.due("days by " + orders[order], x.all(0), 1);
            Check.due("soonest by " + orders[order], x.soonest(0, 3), 1);
        }
    }

    /** a, b, c know it, and each has somebody of its own to tell: not on one day if they hear one another round a ring. */
    private static void ring() {
        String[] orders = {"free", "topic", "any", "other"};
        for (int order = 0; order < 4; order++) {
            String begin = "news n at a; order " + orders[order] + "; hears = if day < 1 then to * (3 - to) else ";
            HillDrums x = Check.land(6, begin + Check.only("1 12 20 3 14 25") + ";");
            x.drum(0, 0, false);
            Check.due("round a ring by " + orders[order], x.all(0), order == 0 || order == 3 ? 1 : 2);
            Check.due("drums", x.drums(0), 3);
            x = Check.land(6, begin + Check.only("1 12 3 14 25") + ";");
            x.drum(0, 0, false);
            Check.due("the last one first by " + orders[order], x.all(0), 1);
        }
    }

    private static void fewestDrums() {
        // a is heard by b and c, these by d and e; on day 3 everybody hears everybody.
        HillDrums x = Check.land(5, "news n at a; hears = if 2 < day then 5 - day else if from < 1 then 3 - to else to - 2;");
        Check.due("in two days", x.all(0), 2);
        Check.due("by a alone on day 3", x.drums(0), 1);
        Check.due("d soonest", x.soonest(0, 3), 2);
        // As by days 1 and 2, but only e hears b.
        x = Check.land(5, "news n at a; hears = if from < 1 then 3 - to else if from < 2 then to - 3 else to - 2;");
        Check.due("in two days", x.all(0), 2);
        Check.due("by a and c", x.drums(0), 2);
    }

    private static void way(HillDrums x, int a, int b, int... codes) {
        String of = "loophole of " + a + " and " + b;
        Check.due(of, x.loophole(a, b, 0), codes.length);
        for (int i = 0; i < codes.length; i++) {
            Check.due(of + " at " + i, x.loopholeAt(a, b, 0, i), codes[i]);
        }
        Check.due(of + " behind its end", x.loopholeAt(a, b, 0, codes.length), NONE);
        Check.due(of + " far behind its end", x.loopholeAt(a, b, 0, Integer.MAX_VALUE), NONE);
        Check.due(of + " below 0", x.loopholeAt(a, b, 0, -1), NONE);
        Check.due("nothing happened", x.count(10), 0);
    }

    private static void noWay(HillDrums x, int a, int b) {
        Check.due("no loophole of " + a + " and " + b, x.loophole(a, b, 0), -2);
        Check.due("at 0", x.loopholeAt(a, b, 0, 0), -2);
        Check.due("at 7", x.loopholeAt(a, b, 0, 7), -2);
        Check.due("below 0", x.loopholeAt(a, b, 0, -1), NONE);
    }

    private static void loopholes() {
        way(Check.land(3, "news n at a; order free;"), 0, 1, 0, 100);
        way(Check.land(3, "news n at a; order other;"), 0, 1, 0, 100);
        noWay(Check.land(3, "news n at a; order topic;"), 0, 1);
        noWay(Check.land(3, "news n at a; order any;"), 0, 1);
        noWay(Check.land(3, "news n at a; order free;"), 0, 2);
        noWay(Check.land(2, "news n at a; order free; hears = 0;"), 0, 1);
        noWay(Check.land(2, "news n at a; order free; hears = from;"), 0, 1);
        String round = "hears = " + Check.only("1 2 13 23 30") + ";";
        way(Check.land(4, "news n at a; news m at b; order free;" + round), 0, 3, 0, 100, 300);
        way(Check.land(4, "news n at a; order other;" + round), 0, 3, 0, 100, 300);
        noWay(Check.land(4, "news n at a; order topic;" + round), 0, 3);
        HillDrums back = Check.land(4, "news m at b; news n at d; order free; hears = " + Check.only("30 2 23") + ";");
        Check.due("through the first hill", back.loophole(3, 2, 1), 3);
        Check.due("d says n", back.loopholeAt(3, 2, 1, 0), 310);
        Check.due("a says n", back.loopholeAt(3, 2, 1, 1), 10);
        Check.due("c says n", back.loopholeAt(3, 2, 1, 2), 210);
        noWay(Check.land(4, "news n at a; order free; hears = " + Check.only("1 12 23 30") + ";"), 0, 3);
        HillDrums x = Check.land(3, "news n at a; order free;");
        for (int wrong : NO_NUMBERS) {
            Check.due("no such a", x.loophole(wrong, 1, 0), NONE);
            Check.due("no such b", x.loophole(0, wrong, 0), NONE);
            Check.due("no such news", x.loophole(0, 1, wrong), NONE);
            Check.due("no such a", x.loopholeAt(wrong, 1, 0, 0), NONE);
        }
        Check.due("one and the same", x.loophole(0, 0, 0), NONE);
        Check.due("a does not know it", x.loophole(1, 0, 0), NONE);
        Check.due("a does not know it", x.loopholeAt(1, 0, 0, 0), NONE);
    }

    /** b knows it since yesterday and does not hear a today; what else was heard today decides. */
    private static void loopholesToday() {
        String law = "hears = if day < 1 then 1 else " + Check.only("10 21") + ";";
        for (String order : new String[] {"topic", "any", "other", "free"}) {
            HillDrums x = Check.land(3, "news n at a; news m at c; order " + order + ";" + law);
            x.drum(0, 0, false);
            x.night();
            Check.due("by " + order, x.loophole(0, 1, 0), 2);
            Check.due("b says it", x.loopholeAt(0, 1, 0, 1), 100);
            Check.due("c denies it", x.drum(2, 0, true), 1);
            boolean answers = order.equals("topic") || order.equals("any");
            Check.due("by " + order, x.loophole(0, 1, 0), answers ? -2 : 2);
            Check.due("b says or denies it", x.loopholeAt(0, 1, 0, 1), answers ? -2 : order.equals("other") ? 101 : 100);
            x.undo();
            x.drum(2, 1, true);
            Check.due("c drums another news, " + order, x.loophole(0, 1, 0), order.equals("any") ? -2 : 2);
            x.undo();
            x.drum(1, 0, true);
            boolean firstIsNone = order.equals("topic") || order.equals("any") || order.equals("other");
            Check.due("a heard b deny it, " + order, x.loophole(0, 1, 0), firstIsNone ? -2 : 2);
        }
    }

    private static void loopholeRoom() {
        HillDrums x = Check.land(3, "news n at a; order free;");
        for (int drums = 0; drums <= 60; drums++) {
            Check.due("behind " + drums, x.loophole(0, 1, 0), drums <= 58 ? 2 : -2);
            x.drum(0, 0, false);
        }
        x = Check.land(4, "news n at a; order free; hears = " + Check.only("1 13 30") + ";");
        for (int drums = 0; drums < 58; drums++) {
            x.drum(0, 0, false);
        }
        Check.due("b heard a by now: 2 are enough", x.loophole(0, 3, 0), -2);
        x.undo();
        Check.due("room for three", x.loophole(0, 3, 0), 3);
    }

    private static void sure() {
        HillDrums x = new HillDrums();
        Check.due("3 of 4 by a half", x.sure(1, 2, 3, 4), 2);
        Check.due("a bit more than 3 of 4", x.sure(1, 2, 7, 9), 3);
        Check.due("all is lost", x.sure(9, 9, 1, 9), -2);
        Check.due("nothing need be sure", x.sure(9, 9, 0, 9), 1);
        Check.due("nothing is lost", x.sure(0, 1, 1, 1), 1);
        Check.due("never all sure", x.sure(1, 9, 1, 1), -2);
        Check.due("8 of 9 lost, 8 of 9 sure: not by 18", x.sure(8, 9, 8, 9), -2);
        Check.due("8 of 9 lost, 7 of 8 sure: by 18", x.sure(8, 9, 7, 8), 18);
        Check.due("8 of 9 lost, 1 of 9 sure", x.sure(8, 9, 1, 9), 1);
        Check.due("8 of 9 lost, 1 of 8 sure", x.sure(8, 9, 1, 8), 2);
        for (int[] wrong : new int[][] {{0, 0, 0, 1}, {-1, 1, 0, 1}, {2, 1, 0, 1}, {0, 10, 0, 1}, {0, 1, -1, 1}, {0, 1, 2, 1}, {0, 1, 0, 0},
            {0, 1, 0, 10}, {0, Integer.MIN_VALUE, 0, 1}, {0, 1, 0, Integer.MIN_VALUE}, {Integer.MAX_VALUE, 1, 0, 1}}) {
            Check.due("sure of no such ones", x.sure(wrong[0], wrong[1], wrong[2], wrong[3]), NONE);
        }
    }

    public static void main(String[] args) {
        inARow();
        days();
        whoMayOnADay();
        ring();
        fewestDrums();
        loopholes();
        loopholesToday();
        loopholeRoom();
        sure();
        Check.end();
    }
}

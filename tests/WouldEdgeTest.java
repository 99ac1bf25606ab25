/** Promises 14 to 23, and 25, at each limit that the document names. */
public final class WouldEdgeTest {
    private static final int NONE = Check.NONE;
    private static final int MOST = Integer.MAX_VALUE;
    private static final int LEAST = Integer.MIN_VALUE;
    private static final String[] ORDERS = {"free", "topic", "any", "other"};

    private WouldEdgeTest() {
    }

    /** a knows n, and b hears nobody ahead of this day. */
    private static HillDrums heardFrom(int day, String more) {
        return Check.land(2, "news n at a; hears = day + 1 - " + day + ";" + more);
    }

    private static void behind200Days() {
        for (int days : new int[] {1, 2, 199, 200, 201, 202}) {
            int due = days <= 200 ? days : -2;
            for (int order = 0; order < 4; order++) {
                HillDrums x = heardFrom(days - 1, "order " + ORDERS[order] + ";");
                Check.due("byRule behind " + days, x.byRule(0, 1), due);
                Check.due("agreed behind " + days, x.agreed(0, 1, 0, 0), due);
                Check.due("best order behind " + days, x.bestOrder(0, 1), due);
                Check.due("which", x.bestOrder(0, 0), days <= 200 ? 0 : -2);
                Check.due("quiet behind " + days, x.quiet(0, 1, 1), due);
                Check.due("none quiet", x.quiet(0, 1, 0), -2);
                Check.due("it knows it", x.byRule(0, 0), 0);
            }
            HillDrums x = heardFrom(days, "");
            x.night();
            Check.due("from tomorrow on", x.byRule(0, 1), due);
            Check.due("agreed", x.agreed(1, 0, 0, 0), due);
        }
        HillDrums x = heardFrom(0, "");
        x.drum(0, 0, true);
        Check.due("behind 0 days", x.byRule(0, 1), 0);
        Check.due("agreed by now", x.agreed(0, 1, 0, 0), 0);
        Check.due("all know it by now", x.bestOrder(0, 1), 0);
        Check.due("by the first of alike ones", x.bestOrder(0, 0), 0);
        Check.due("it knows it", x.quiet(0, 1, 1), NONE);
    }

    /** 1 for this pair alone: "2": 2 hears 0. It is of use in sums. */
    private static String pair(int pair) {
        String off = "(from * 10 + to - " + pair + ")";
        return " + 1 / (1 + " + off + " * " + off + ")";
    }

    /** All but e know n since yesterday; c answers a (and d answers b), so e hears of it by nobody. */
    private static HillDrums answering(String law) {
        HillDrums x = Check.land(5, "news n at a; order topic; hears = if day < 1 then 4 - to else 0" + law + ";");
        x.drum(0, 0, false);
        x.night();
        return x;
    }

    private static void quiet(String law, int who, int behind) {
        HillDrums x = answering(law);
        Check.due("quiet by " + law, x.quiet(0, 4, 0), who);
        Check.due("behind by " + law, x.quiet(0, 4, 1), behind);
        Check.due("what 2", x.quiet(0, 4, 2), NONE);
        Check.due("c knows it", x.quiet(0, 2, 0), NONE);
    }

    private static void whoIsQuiet() {
        quiet(pair(2) + pair(24), 0, 1);
        quiet(pair(13) + pair(34), 1, 1);
        quiet(pair(2) + pair(13) + pair(24) + pair(34), 0, 1);
        quiet(pair(2) + pair(13) + pair(24) + " * (day / 5)" + pair(34), 1, 1);
        quiet(pair(2) + pair(13) + pair(24) + pair(34) + " * (day / 5)", 0, 1);
        quiet(pair(2) + pair(13) + pair(24) + " * (day / 5)" + pair(34) + " * (day / 5)", 0, 5);
        quiet(pair(2) + pair(13) + pair(24) + pair(34) + pair(4) + " * (day / 4)", 0, 1);
        quiet(pair(2) + pair(13) + pair(24) + pair(34) + pair(4), -2, 1);
        quiet(pair(2) + pair(24) + pair(34), -2, 1);
        quiet(pair(2) + pair(13), -2, -2);
        for (int days : new int[] {1, 2, 199, 200, 201, 202}) {
            boolean found = days <= 200;
            quiet(pair(2) + pair(24) + " * (day / " + days + ")", found ? 0 : -2, found ? days : -2);
            quiet(pair(24) + " * (day / " + days + ")", -2, found ? days : -2);
        }
    }

    /** Were a quiet by day alone, it would hear n of b, and tell c by night. */
    private static void quietAsleep() {
        HillDrums x = Check.land(3, "news n at b; news m at a; order any; sleeper a n 1; hears = 0" + pair(1) + pair(10) + pair(2) + ";");
        Check.due("none", x.quiet(0, 2, 0), -2);
        Check.due("ever", x.quiet(0, 2, 1), -2);
        Check.due("a would hear it if it were quiet", x.quiet(0, 0, 0), 0);
        Check.due("today", x.quiet(0, 0, 1), 1);
        x = Check.land(4, "news n at a; sleeper b n 1;");
        Check.due("b's sleeper tells c, and c says it on day 1", x.quiet(0, 3, 1), 2);
        Check.due("with none quiet", x.quiet(0, 3, 0), -2);
    }

    private static void noSuchOnes() {
        HillDrums x = Check.land(6, "news n at a; news m at b; news o at c; news p at f;");
        for (int wrong : new int[] {-1, 4, MOST, LEAST}) {
            int hill = wrong == 4 ? 6 : wrong;
            int what = wrong == 4 ? 2 : wrong;
            int[] answers = {x.byRule(wrong, 0), x.byRule(0, hill), x.agreed(hill, 1, 0, 1), x.agreed(1, hill, 0, 1), x.agreed(0, 1, wrong, 1),
                x.agreed(0, 1, 1, wrong), x.bestOrder(wrong, 0), x.bestOrder(0, what), x.quiet(wrong, 1, 0), x.quiet(0, hill, 0),
                x.quiet(0, 1, what), x.soonest(wrong, 0), x.soonest(0, hill), x.all(wrong), x.drums(wrong), x.loophole(hill, 1, 0),
                x.loophole(0, hill, 0), x.loophole(0, 1, wrong), x.loopholeAt(hill, 1, 0, 0), x.loopholeAt(0, hill, 0, 0),
                x.loopholeAt(0, 1, wrong, 0), x.agreed(hill, hill, 0, 1), x.loophole(hill, hill, 0)};
            for (int i = 0; i < answers.length; i++) {
                Check.due("call " + i + " of " + wrong, answers[i], NONE);
            }
        }
        for (int hill = 0; hill < 6; hill++) {
            Check.due("agreed of one and the same", x.agreed(hill, hill, 0, 1), NONE);
            Check.due("loophole of one and the same", x.loophole(hill, hill, 0), NONE);
            Check.due("at of one and the same", x.loopholeAt(hill, hill, 0, 0), NONE);
            Check.due("loophole where it is not known", x.loophole(hill, (hill + 1) % 6, 0), hill == 0 ? -2 : NONE);
        }
        Check.due("the last of all", x.byRule(3, 5), 0);
        Check.due("quiet of the last, which knows it", x.quiet(3, 5, 0), NONE);
        Check.due("quiet of the last", x.quiet(0, 5, 0) == NONE, false);
        Check.due("one and the same news", x.agreed(0, 1, 0, 0), 1);
        Check.due("soonest of the last", x.soonest(3, 5), 0);
    }

    private static void talkOf200Days() {
        HillDrums x = Check.land(1, "news n at a; sleeper a n 7;");
        for (int n : new int[] {1, 2, 7, 8, 199, 200}) {
            Check.due("talk " + n, x.talk(n), n + (n + 6) / 7);
        }
        for (int n : new int[] {0, -1, 201, 202, MOST, LEAST}) {
            Check.due("talk " + n, x.talk(n), NONE);
        }
        for (int drums = 0; drums <= 60; drums++) {
            Check.due("talk behind " + drums, x.talk(1), (drums < 60 ? 1 : 0) + 1);
            Check.due("two days", x.talk(2), (drums < 60 ? 1 : 0) + 2);
            x.drum(0, 0, true);
        }
        x = Check.land(6, "news n at a; news m at b; news o at c; news p at d; hears = 1; order free;");
        Check.due("as each hears it ahead of its turn", x.talk(1), 1 + 2 + 3 + 4 + 4 + 4);
        Check.due("all of all", x.talk(200), 18 + 199 * 24);
    }

    /** d (and e) drummed all but so many of the day's DRUMS, and who may have the last ones is another by each ORDER. */
    private static void best(int order, int left, String text) {
        HillDrums x = Check.land(5, text + " order other;");
        x.drum(3, 0, false);
        x.night();
        boolean denied = order == 3;
        Check.due("of e", x.drum(4, 0, false), denied ? 1 : 0);
        for (int i = left + 1; i < 60; i++) {
            Check.due("of d", x.drum(3, 0, denied), 1);
        }
        Check.due("best", x.bestOrder(0, 0), order);
        Check.due("today", x.bestOrder(0, 1), 1);
        Check.due("order stays", x.count(5), 3);
    }

    private static void eachBestOrder() {
        // c is to know it by b, which heard nothing; a, which comes first, heard d say it, and may know m, too.
        String toC = " hears = if day < 1 then (to - 2) * (to - 2) else " + Check.only("30 12") + ";";
        best(0, 2, "news n at d;" + toC);
        best(1, 1, "news n at d;" + toC);
        best(2, 1, "news n at d; news m at a;" + toC);
        // b is to know it by c, which heard e say it; a heard d deny it.
        best(3, 1, "news n at d; hears = if day < 1 then (to - 1) * (to - 1) else " + Check.only("30 42 21") + ";");
    }

    private static void plans(HillDrums x, int hill, int soonest, int all, int drums) {
        Check.due("soonest to " + hill, x.soonest(0, hill), soonest);
        Check.due("all", x.all(0), all);
        Check.due("drums", x.drums(0), drums);
    }

    private static void within60Days() {
        for (int days : new int[] {1, 2, 59, 60, 61, 62, 200}) {
            boolean found = days <= 60;
            for (String order : ORDERS) {
                plans(heardFrom(days, "order " + order + ";"), 1, found ? days : -2, found ? days : -2, found ? 1 : -2);
            }
            HillDrums x = heardFrom(days + 7, "");
            x.run(7);
            plans(x, 1, found ? days : -2, found ? days : -2, found ? 1 : -2);
            Check.due("it knows it", x.soonest(0, 0), 0);
            // Two ways, one of which must be waited for: by 2 DRUMS on days 1 and 2, by 1 on the later day.
            x = Check.land(3, "news n at a; hears = if day < " + days + " then 10 - far else 11 - far;");
            Check.due("days", x.all(0), days == 1 ? 1 : 2);
            Check.due("drums", x.drums(0), found ? 1 : 2);
        }
        HillDrums x = heardFrom(0, "");
        x.drum(0, 0, true);
        plans(x, 1, 0, 0, 0);
    }

    /** From tomorrow on, whatever was today; a DRUM of a day is of use on the next one alone. */
    private static void plansBegin() {
        plans(Check.land(2, "news n at a; hears = 1 - day;"), 1, -2, -2, -2);
        plans(Check.land(2, "news n at a; hears = day * (2 - day);"), 1, 1, 1, 1);
        plans(Check.land(2, "news n at a; hears = (day - 1) * (3 - day);"), 1, 2, 2, 1);
        for (String order : ORDERS) {
            for (int hills = 1; hills <= 6; hills++) {
                HillDrums x = Check.land(hills, "news n at a; order " + order + "; sleeper a n 1;");
                plans(x, hills - 1, hills - 1, hills - 1, hills - 1);
                x = Check.land(hills, "news n at a; order " + order + "; hears = 1;");
                plans(x, hills - 1, Math.min(hills - 1, 1), Math.min(hills - 1, 1), Math.min(hills - 1, 1));
            }
            HillDrums x = Check.land(3, "news n at a; news m at c; order " + order + ";");
            x.drum(2, 1, true);
            for (int i = 0; i < 59; i++) {
                x.drum(0, 0, i % 2 == 0);
            }
            Check.due("a full day", x.count(3), 60);
            plans(x, 2, 1, 1, 1);
            Check.due("of m", x.soonest(1, 2), 0);
            Check.due("of m to a", x.soonest(1, 0), 1);
            Check.due("of m to all", x.all(1), 1);
        }
    }

    /** Only those that KNEW it say it, and no two that hear each other on one day, where there is but one day for it. */
    private static void whoSaysIt() {
        HillDrums x = Check.land(3, "news n at b; hears = 0" + pair(1) + pair(2) + pair(10) + ";");
        plans(x, 2, 2, 2, 2);
        plans(Check.land(4, "news n at c; hears = 0" + pair(1) + pair(3) + pair(20) + ";"), 3, 2, 2, 2);
        plans(Check.land(3, "news n at c; hears = 0" + pair(1) + pair(2) + pair(12) + ";"), 1, -2, -2, -2);
        for (int order = 0; order < 4; order++) {
            boolean both = order == 0 || order == 3;
            String begin = "news n at a; order " + ORDERS[order] + "; hears = if day < 1 then to * (2 - to) else ";
            // b knows it since today; a and b hear each other, c hears a, d hears b: on day 2 alone, or on days 2 and 3.
            for (int last = 2; last <= 3; last++) {
                String days = "(day - 1) * (" + last + " + 1 - day) * (0";
                x = Check.land(4, begin + days + pair(1) + pair(10) + pair(2) + pair(13) + ");");
                x.drum(0, 0, false);
                boolean found = both || last == 3;
                plans(x, 2, 2, both ? 2 : found ? 3 : -2, found ? 2 : -2);
                x = Check.land(4, begin + days + pair(10) + pair(2) + pair(13) + ");");
                x.drum(0, 0, false);
                plans(x, 3, 2, 2, 2);
            }
        }
    }

    private static void sizes() {
        HillDrums x = Check.land(6, "news n at f; news m at f; news o at f; news p at f; hears = from;");
        Check.due("f to all", x.all(3), 1);
        Check.due("f to a", x.soonest(3, 0), 1);
        Check.due("f itself", x.soonest(3, 5), 0);
        Check.due("by one", x.drums(3), 1);
        x = Check.land(6, "news n at a; hears = from;");
        plans(x, 5, -2, -2, -2);
        // Each is heard by the next one and by none else: five DRUMS, in five days.
        plans(Check.land(6, "news n at a; hears = " + Check.only("1 12 23 34 45") + ";"), 5, 5, 5, 5);
        plans(Check.land(6, "news n at a; hears = (to - from) * (2 - to + from);"), 5, 5, 5, 5);
    }

    private static void loopholeOf(String land, int length, int... codes) {
        HillDrums x = Check.land(6, "news n at a; order free; hears = " + Check.only(land) + ";");
        Check.due("loophole by " + land, x.loophole(0, 5, 0), length);
        for (int i = -2; i < 6; i++) {
            int due = i < 0 ? NONE : length < 0 ? length : i < length ? codes[i] : NONE;
            Check.due("at " + i + " by " + land, x.loopholeAt(0, 5, 0, i), due);
        }
        Check.due("at the most", x.loopholeAt(0, 5, 0, MOST), length < 0 ? length : NONE);
        Check.due("at the least", x.loopholeAt(0, 5, 0, LEAST), NONE);
        Check.due("nothing happened", x.count(3) + x.count(10) + x.count(13), 1);
    }

    private static void loopholesOf3() {
        loopholeOf("5 50", 2, 0, 500);
        loopholeOf("5 50 1 15", 2, 0, 500);
        loopholeOf("1 15 50", 3, 0, 100, 500);
        loopholeOf("2 25 50", 3, 0, 200, 500);
        loopholeOf("4 1 15 45 50", 3, 0, 100, 500);
        loopholeOf("1 12 25 50", -2);
        loopholeOf("1 15", -2);
        loopholeOf("5 15", -2);
        loopholeOf("1 50", -2);
        HillDrums x = Check.land(3, "news n at a;");
        Check.due("at 0 where it is not known", x.loopholeAt(1, 0, 0, 0), NONE);
        Check.due("at -1 where it is not known", x.loopholeAt(1, 0, 0, -1), NONE);
        Check.due("at 0 of one and the same", x.loopholeAt(0, 0, 0, 0), NONE);
    }

    /** By other: b heard d deny it today, so it denies it, and c, which hears b, denies it, too. */
    private static void saidAheadOfDenied() {
        HillDrums x = Check.land(4, "news n at a; order other; hears = if day < 1 then (to - 2) * (to - 2) else " + Check.only("12 20 31") + ";");
        x.drum(0, 0, false);
        x.night();
        Check.due("b may say it", x.loopholeAt(0, 2, 0, 1), 100);
        Check.due("c says it", x.loopholeAt(0, 2, 0, 2), 200);
        x.drum(3, 0, true);
        Check.due("three still", x.loophole(0, 2, 0), 3);
        Check.due("a says it", x.loopholeAt(0, 2, 0, 0), 0);
        Check.due("b denies it", x.loopholeAt(0, 2, 0, 1), 101);
        Check.due("c denies it", x.loopholeAt(0, 2, 0, 2), 201);
        x.drum(3, 0, false);
        Check.due("b may do neither", x.loophole(0, 2, 0), -2);
        Check.due("at 0", x.loopholeAt(0, 2, 0, 0), -2);
    }

    private static void firstMustBeLawful() {
        for (int order = 0; order < 4; order++) {
            for (int denied = 0; denied < 2; denied++) {
                HillDrums x = Check.land(3, "news n at c; order " + ORDERS[order] + "; hears = if day < 1 then 1 else " + Check.only("10 20") + ";");
                x.drum(2, 0, false);
                x.night();
                Check.due("ahead of all", x.loophole(0, 1, 0), 2);
                x.drum(2, 0, denied == 1);
                boolean answer = order == 1 || order == 2 || order == 3 && denied == 1;
                Check.due(ORDERS[order] + ", heard " + denied, x.loophole(0, 1, 0), answer ? -2 : 2);
                Check.due("at 1", x.loopholeAt(0, 1, 0, 1), answer ? -2 : 100);
            }
        }
    }

    private static void loopholeOfAFullDay() {
        HillDrums two = Check.land(2, "news n at a; order free;");
        HillDrums three = Check.land(3, "news n at a; order free; hears = " + Check.only("1 12 20") + ";");
        for (int drums = 0; drums <= 60; drums++) {
            Check.due("two behind " + drums, two.loophole(0, 1, 0), drums <= 58 ? 2 : -2);
            two.drum(0, 0, false);
            // b knows it from the first DRUM on, but a does not hear b: still three, while there is room.
            Check.due("three behind " + drums, three.loophole(0, 2, 0), drums <= 57 ? 3 : -2);
            three.drum(0, 0, true);
        }
    }

    private static void sureBy18() {
        HillDrums x = new HillDrums();
        int[][] due = {{7, 8, 7, 8, 16}, {8, 9, 5, 6, 16}, {7, 8, 8, 9, 17}, {8, 9, 6, 7, 17}, {8, 9, 7, 8, 18}, {8, 9, 8, 9, -2},
            {8, 9, 9, 9, -2}, {1, 9, 9, 9, -2}, {0, 9, 9, 9, 1}, {9, 9, 0, 9, 1}, {9, 9, 1, 9, -2}, {1, 1, 1, 1, -2}, {0, 1, 0, 1, 1},
            {1, 2, 1, 2, 1}, {1, 2, 3, 4, 2}, {1, 2, 7, 8, 3}, {1, 2, 8, 9, 4}, {1, 3, 8, 9, 2}, {2, 3, 5, 9, 2}, {2, 3, 1, 3, 1}, {2, 3, 3, 8, 2}};
        for (int[] of : due) {
            Check.due("sure " + of[0] + " " + of[1] + " " + of[2] + " " + of[3], x.sure(of[0], of[1], of[2], of[3]), of[4]);
        }
        for (int b : new int[] {-1, 0, 1, 9, 10, MOST, LEAST}) {
            boolean fits = b >= 1 && b <= 9;
            Check.due("b " + b, x.sure(0, b, 1, 1), fits ? 1 : NONE);
            Check.due("q " + b, x.sure(0, 1, 0, b), fits ? 1 : NONE);
        }
        for (int a = -1; a <= 6; a++) {
            Check.due("a " + a + " of 5", x.sure(a, 5, 0, 1), a >= 0 && a <= 5 ? 1 : NONE);
            Check.due("p " + a + " of 5", x.sure(0, 1, a, 5), a >= 0 && a <= 5 ? 1 : NONE);
        }
        for (int far : new int[] {MOST, LEAST}) {
            Check.due("a far out", x.sure(far, 9, 1, 1), NONE);
            Check.due("p far out", x.sure(1, 9, far, 1), NONE);
        }
    }

    private static void nothingHappens() {
        Seen.unchanged("forecasts", Seen::busy, x -> {
            x.byRule(0, 3);
            x.agreed(0, 3, 0, 1);
            x.talk(200);
            x.bestOrder(0, 1);
            x.quiet(0, 3, 1);
        });
        Seen.unchanged("plans and loopholes", Seen::busy, x -> {
            x.soonest(0, 3);
            x.all(0);
            x.drums(0);
            x.loophole(0, 1, 0);
            x.loopholeAt(1, 0, 0, 1);
            x.sure(1, 2, 3, 4);
        });
    }

    public static void main(String[] args) {
        behind200Days();
        noSuchOnes();
        talkOf200Days();
        eachBestOrder();
        whoIsQuiet();
        quietAsleep();
        within60Days();
        plansBegin();
        whoSaysIt();
        sizes();
        loopholesOf3();
        saidAheadOfDenied();
        firstMustBeLawful();
        loopholeOfAFullDay();
        sureBy18();
        nothingHappens();
        Check.end();
    }
}

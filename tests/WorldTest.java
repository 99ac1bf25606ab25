/** Promises 6 to 13, and 24: who hears whom, NEWS, DRUMS, nights, days by the RULE, undo, clashes. */
public final class WorldTest {
    private static final int NONE = Check.NONE;
    private static final int FAR_OUT = Integer.MAX_VALUE;

    private WorldTest() {
    }

    private static void law(String law, int day, int heard) {
        HillDrums x = Check.told("hill a 0 0; hill b 3 4; wind 5 1; fog 2; hears = " + law + ";");
        Check.due("hears by " + law + " on day " + day, x.hears(0, 1, day), heard);
    }

    private static void hearing() {
        HillDrums x = Check.told("hill a 0 0; hill b 5 4; hill c 5 5;");
        Check.due("9 apart", x.hears(0, 1, 0), 1);
        Check.due("10 apart", x.hears(0, 2, 0), 0);
        Check.due("itself", x.hears(2, 2, 9999), 1);
        Check.due("no law lets it not hear itself", Check.read(x, "hill a 0 0; hears = 0;"), 0);
        Check.due("itself", x.hears(0, 0, 0), 1);
        for (int[] wrong : new int[][] {{-1, 0, 0}, {0, -1, 0}, {1, 0, 0}, {0, 1, 0}, {0, 0, -1}, {0, 0, 10000},
            {FAR_OUT, 0, 0}, {0, FAR_OUT, 0}, {0, 0, FAR_OUT}, {0, 0, Integer.MIN_VALUE}}) {
            Check.due("hears of no such ones", x.hears(wrong[0], wrong[1], wrong[2]), NONE);
        }
        x = Check.told("hill a 0 0; hill b 0 0; hears = 0; hears = to - from;");
        Check.due("the last law", x.hears(0, 1, 0), 1);
        Check.due("the other way", x.hears(1, 0, 0), 0);
        x = Check.told("hill a 0 0; hill b 0 0; wind 0 0 0 0 0 0 0 0 0 0 0 1; hears = wind;");
        for (int day = 0; day < 40; day++) {
            Check.due("a dozen winds, day " + day, x.hears(0, 1, day), day % 12 == 11 ? 1 : 0);
        }
        x = Check.land(2, "news n at a; hears = if day < 300 then 100 - day else day - 310;");
        for (int days = 100; days <= 300; days += 100) {
            Check.due("run", x.run(100), days);
        }
        Check.due("heard on day 44, not on day 300", x.drum(0, 0, false), 0);
        x.run(11);
        Check.due("heard on day 311", x.drum(0, 0, false), 1);
        x = Check.told("hill a 99 0; hill b 0 99; hears = 199 - far;");
        Check.due("198 apart", x.hears(1, 0, 0), 1);
    }

    private static void laws() {
        law("7 - far", 0, 0);
        law("8 - far", 0, 1);
        law("2 + 3 * 4 - 13", 0, 1);
        law("20 - 5 - 15", 0, 0);
        law("100 / 10 / 10", 0, 1);
        law("100 / (10 / 10) - 99", 0, 1);
        law("2 * (3 + 4) - 14", 0, 0);
        law("(0 - 7) / 2 + 4", 0, 1);
        law("7 / (0 - 2) + 4", 0, 1);
        law("9999 * 9999 * 30", 0, 0);
        law("9999 * 9999 * 21", 0, 1);
        law("2048 * 1024 * 1024 / (0 - 1) - 1", 0, 1);
        law("2048 * 1024 * 1024 / (0 - 1)", 0, 0);
        law("wind - fog", 0, 1);
        law("wind - fog", 1, 0);
        law("wind - fog", 2, 1);
        law("day - 9998", 9999, 1);
        law("day - 9998", 9998, 0);
        law("to", 0, 1);
        law("from", 0, 0);
    }

    private static void ifsAndZeros() {
        law("if far < 7 then 0 else if far < 8 then 1 else 0", 0, 1);
        law("if 1 < 2 then 0 else if 1 < 2 then 1 else 1", 0, 0);
        law("if 2 < 2 then 1 else 0", 0, 0);
        law("if 1 < 0 then 0 else if 1 < 0 then 0 else if 1 < 0 then 0 else if 0 < 1 then 1 else 0", 0, 1);
        law("1 / 0", 0, 0);
        law("1 / 0 + 5", 0, 0);
        law("5 + 0 * (1 / 0)", 0, 0);
        law("if 1 < 1 / 0 then 5 else 5", 0, 0);
        law("if 1 / 0 < 1 then 5 else 5", 0, 0);
        law("if 1 < 2 then 5 else 1 / 0", 0, 1);
        law("if 2 < 1 then 1 / 0 else 5", 0, 1);
        law("if 1 < 2 then 1 / 0 else 5", 0, 0);
        law("if 1 < 2 then 5 else if 1 / 0 < 1 then 0 else 0", 0, 1);
        law("5 / day", 0, 0);
        law("5 / day", 5, 1);
        law("5 / day", 6, 0);
        law("((((((1))))))", 0, 1);
        law("1-(1-(1-(1-(1-(1-0)))))", 0, 0);
        law("8-(9-(9-(9-(9-(9-(9-8*1))))))", 0, 0);
    }

    private static void knowing() {
        HillDrums x = Check.land(4, "news n at b; news m at c;");
        int[] atHome = {1, 0, 1, 0, 0};
        int[] elsewhere = {0, -2, -2, -2, 0};
        for (int what = 0; what < 5; what++) {
            Check.due("news at home " + what, x.news(1, 0, what), atHome[what]);
            Check.due("news elsewhere " + what, x.news(2, 0, what), elsewhere[what]);
        }
        for (int[] wrong : new int[][] {{-1, 0, 0}, {4, 0, 0}, {0, -1, 0}, {0, 2, 0}, {0, 0, -1}, {0, 0, 5}, {FAR_OUT, FAR_OUT, FAR_OUT}}) {
            Check.due("news of no such ones", x.news(wrong[0], wrong[1], wrong[2]), NONE);
        }
        x.night();
        Check.due("drum", x.drum(1, 0, true), 2);
        int[] heard = {1, 1, 1, 1, 0};
        for (int what = 0; what < 5; what++) {
            Check.due("news at home " + what, x.news(1, 0, what), atHome[what]);
            Check.due("news as heard " + what, x.news(2, 0, what), heard[what]);
        }
        x.night();
        Check.due("drum", x.drum(0, 0, false), 1);
        Check.due("drum", x.drum(2, 0, false), 2);
        int[] later = {1, 2, 2, 0, 0};
        for (int what = 0; what < 5; what++) {
            Check.due("news as heard later " + what, x.news(3, 0, what), later[what]);
            Check.due("news as heard at first " + what, x.news(2, 0, what), heard[what]);
        }
    }

    private static void drumming() {
        HillDrums x = Check.land(4, "news n at b; news m at c;");
        for (int[] wrong : new int[][] {{-1, 0}, {4, 0}, {0, -1}, {0, 2}, {FAR_OUT, 0}, {0, Integer.MIN_VALUE}}) {
            Check.due("drum of no such ones", x.drum(wrong[0], wrong[1], false), NONE);
            Check.due("may of no such ones", x.may(wrong[0], wrong[1], false), NONE);
        }
        Check.due("may it does not know", x.may(0, 0, false), -3);
        Check.due("drum it does not know", x.drum(0, 0, false), -3);
        Check.due("things done", x.count(10), 0);
        Check.due("may", x.may(1, 0, true), 1);
        Check.due("drum", x.drum(1, 0, true), 2);
        Check.due("its own again", x.drum(1, 0, false), 2);
        Check.due("an answer", x.drum(2, 0, false), -2);
        Check.due("drums of the day", x.count(3), 2);
        Check.due("things done", x.count(10), 2);
        Check.due("another news", x.drum(2, 1, false), 2);
        int[][] drums = {{1, 0, 1, 7}, {1, 0, 0, 7}, {2, 1, 0, 14}};
        for (int i = 0; i < 3; i++) {
            for (int what = 0; what < 4; what++) {
                Check.due("drummed " + i + " " + what, x.drummed(i, what), drums[i][what]);
            }
        }
        Check.due("drummed, not so many", x.drummed(3, 0), NONE);
        Check.due("drummed below 0", x.drummed(-1, 0), NONE);
        Check.due("drummed, no such what", x.drummed(0, 4), NONE);
        Check.due("drummed, what below 0", x.drummed(0, -1), NONE);
        Check.due("drummed far out", x.drummed(FAR_OUT, 0), NONE);
        Check.due("night", x.night(), 1);
        Check.due("drummed yesterday", x.drummed(0, 0), NONE);
        Check.due("lawful again", x.may(2, 0, false), 1);
        Check.due("drums in all", x.count(4), 3);
    }

    /** b heard a SAY n (and c DENY m) today; what may it say of n, of m, of o? */
    private static void orders() {
        String[] orders = {"free", "topic", "any", "other"};
        int[][] may = {{1, 1, 1, 1, 1, 1}, {0, 0, 0, 0, 1, 1}, {0, 0, 0, 0, 0, 0}, {1, 0, 0, 1, 1, 1}};
        for (int order = 0; order < 4; order++) {
            HillDrums x = Check.land(3, "news n at a; news m at c; news o at b; order " + orders[order] + ";");
            Check.due("a says n", x.drum(0, 0, false), 1);
            Check.due("c denies m", x.drum(2, 1, true), 1);
            for (int i = 0; i < 6; i++) {
                String call = orders[order] + ": may " + i / 2 + (i % 2 == 0 ? " said" : " denied");
                Check.due(call, x.may(1, i / 2, i % 2 == 1), may[order][i]);
            }
            Check.due("a heard none", x.may(0, 0, true), 1);
            Check.due("b drums o", x.drum(1, 2, false), order == 2 ? -2 : 2);
            Check.due("a heard o alone", x.may(0, 0, true), 1);
            Check.due("a drums o", x.may(0, 2, true), order == 2 ? -3 : order == 0 ? 1 : 0);
            x.night();
            Check.due("the next day", x.may(1, 0, true), 1);
        }
    }

    private static void sixty() {
        HillDrums x = Check.land(3, "news n at a; order topic;");
        for (int i = 0; i < 60; i++) {
            Check.due("drum " + i, x.drum(0, 0, i % 2 == 1), 1);
        }
        Check.due("the 61st", x.drum(0, 0, false), -3);
        Check.due("may the 61st", x.may(0, 0, false), -3);
        Check.due("an answer, but looked at later", x.drum(1, 0, false), -3);
        Check.due("drums of the day", x.count(3), 60);
        Check.due("the 60th", x.drummed(59, 2), 1);
        Check.due("the 61st is none", x.drummed(60, 0), NONE);
        Check.due("by the rule none either", x.byRule(0, 2), -2);
        Check.due("talk today", x.talk(1), 0);
        Check.due("talk tomorrow", x.talk(2), 1);
        Check.due("a loophole has no room", x.loophole(0, 1, 0), -2);
        Check.due("run", x.run(1), 1);
        Check.due("drums in all", x.count(4), 60);
        Check.due("drum", x.drum(0, 0, false), 1);
    }

    private static void sleepers() {
        HillDrums x = Check.land(4, "news n at a; news m at d; sleeper b n 2; sleeper a n 2; sleeper b n 1; sleeper c n 3;");
        // Day 0: b knows nothing when it is its turn; a tells b, then b tells c, then c tells d.
        Check.due("night", x.night(), 1);
        Check.due("drums in all", x.count(4), 3);
        Check.due("none of the day's", x.count(3), 0);
        for (int hill = 1; hill < 4; hill++) {
            Check.due("known", x.news(hill, 0, 0), 1);
            Check.due("since", x.news(hill, 0, 1), 0);
            Check.due("from", x.news(hill, 0, 2), hill - 1);
            Check.due("first", x.news(hill, 0, 3), 0);
        }
        Check.due("night", x.night(), 2);
        Check.due("b alone", x.count(4), 4);
        Check.due("night", x.night(), 3);
        Check.due("b, a, b", x.count(4), 7);
        Check.due("night", x.night(), 4);
        Check.due("b, c", x.count(4), 9);
        Check.due("m was not said", x.news(2, 1, 0), 0);
        x = Check.land(2, "news n at a; sleeper b n 1; sleeper a n 9;");
        Check.due("days", x.run(9), 9);
        Check.due("a by day, a on night 0, b on each night", x.count(4), 9 + 1 + 9);
        x = Check.land(3, "news n at a; order any; sleeper a n 1; sleeper b n 1;");
        Check.due("drum", x.drum(0, 0, true), 1);
        Check.due("b may not", x.may(1, 0, false), 0);
        Check.due("but sleeps", x.night(), 1);
        Check.due("c knows", x.news(2, 0, 0), 1);
        Check.due("b clashes: denied by day, said by night", x.clashes(0), 2);
        Check.due("no drum was heard", x.may(1, 0, false), 1);
    }

    private static void rule() {
        HillDrums x = Check.land(4, "news n at a; news m at c;");
        Check.due("run 0", x.run(0), 0);
        Check.due("nothing done", x.count(10), 0);
        for (int wrong : new int[] {-1, 101, FAR_OUT, Integer.MIN_VALUE}) {
            Check.due("run " + wrong, x.run(wrong), NONE);
        }
        Check.due("nothing done", x.count(2), 0);
        Check.due("run 1", x.run(1), 1);
        // a says n, b may not answer n and knows no m, c says m, d may not answer m.
        Check.due("drums in all", x.count(4), 2);
        Check.due("drums of the day", x.count(3), 0);
        Check.due("b knows n", x.news(1, 0, 2), 0);
        Check.due("b knows m", x.news(1, 1, 2), 2);
        Check.due("c does not know n", x.news(2, 0, 0), 0);
        // a says n; b may not say n, but m before c says it; c heard m, d not, so d says it.
        Check.due("run 1", x.run(1), 2);
        Check.due("a knows m", x.news(0, 1, 1), 1);
        Check.due("drums in all", x.count(4), 5);
        Check.due("run 100", x.run(100), 102);
        Check.due("one thing", x.count(10), 3);
        Check.due("undo", x.undo(), true);
        Check.due("day", x.count(2), 2);
        Check.due("drums in all", x.count(4), 5);
        x = Check.land(2, "news n at a; news m at b; order any;");
        x.run(1);
        Check.due("b heard n, so it never says m", x.news(0, 1, 0), 0);
        Check.due("b knows n", x.news(1, 0, 0), 1);
        x = new HillDrums();
        Check.due("run without a text", x.run(100), 100);
    }

    private static void undoing() {
        HillDrums x = Check.land(3, "news n at a;");
        Check.due("undo", x.undo(), false);
        x.drum(0, 0, true);
        x.night();
        x.drum(1, 0, false);
        x.run(2);
        x.drum(9, 0, false);
        x.drum(0, 0, false);
        x.drum(1, 0, false);
        Check.due("things done", x.count(10), 5);
        Check.due("undo the drum", x.undo(), true);
        Check.due("no drum", x.count(3), 0);
        Check.due("undo the run", x.undo(), true);
        Check.due("day", x.count(2), 1);
        Check.due("drums", x.count(3), 1);
        Check.due("of b", x.drummed(0, 0), 1);
        Check.due("an answer still", x.may(0, 0, false), 0);
        Check.due("undo the drum", x.undo(), true);
        Check.due("c does not know", x.news(2, 0, 0), 0);
        Check.due("undo the night", x.undo(), true);
        Check.due("day", x.count(2), 0);
        Check.due("drum again", x.drummed(0, 2), 1);
        Check.due("b's first", x.news(1, 0, 3), 1);
        Check.due("undo the first", x.undo(), true);
        Check.due("b does not know", x.news(1, 0, 0), 0);
        Check.due("in all", x.count(4), 0);
        Check.due("nothing to undo", x.undo(), false);
        for (int i = 0; i < 45; i++) {
            x.night();
            Check.due("things that can be undone", x.count(10), Math.min(i + 1, 40));
        }
        for (int i = 0; i < 40; i++) {
            Check.due("undo", x.undo(), true);
            Check.due("day", x.count(2), 44 - i);
        }
        Check.due("the 41st", x.undo(), false);
        Check.due("day", x.count(2), 5);
        x.night();
        Check.due("undo", x.undo(), true);
        Check.due("undo", x.undo(), false);
    }

    private static void clashing() {
        HillDrums x = Check.land(3, "news n at a; news m at b; order free;");
        x.drum(0, 0, false);
        x.drum(1, 0, true);
        Check.due("b said it not itself", x.clashes(0), 0);
        x.drum(1, 0, false);
        Check.due("a and c heard both of b", x.clashes(0), 5);
        Check.due("of a", x.news(0, 0, 4), 1);
        Check.due("of b", x.news(1, 0, 4), 0);
        Check.due("of m", x.clashes(1), 0);
        x.run(3);
        Check.due("on whatever days", x.clashes(0), 5);
        x.drum(0, 0, true);
        Check.due("b too", x.clashes(0), 7);
        Check.due("no such one", x.clashes(2), NONE);
        Check.due("no such one", x.clashes(-1), NONE);
        x.undo();
        Check.due("undone", x.clashes(0), 5);
    }

    public static void main(String[] args) {
        hearing();
        laws();
        ifsAndZeros();
        knowing();
        drumming();
        orders();
        sixty();
        sleepers();
        rule();
        undoing();
        clashing();
        Check.end();
    }
}

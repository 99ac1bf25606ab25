/** Promises 14 to 18: what the RULE brings about, by which order soonest, and who had better be quiet. */
public final class RuleTest {
    private static final int NONE = Check.NONE;
    private static final int[] NO_NUMBERS = {-1, 99, Integer.MAX_VALUE, Integer.MIN_VALUE};

    private RuleTest() {
    }

    private static void byRule() {
        HillDrums x = Check.land(4, "news n at a; news m at c;");
        int[][] due = {{0, 1, -2, -2}, {2, 1, 0, 1}};
        for (int news = 0; news < 2; news++) {
            for (int hill = 0; hill < 4; hill++) {
                Check.due("byRule " + news + " " + hill, x.byRule(news, hill), due[news][hill]);
            }
        }
        for (int wrong : NO_NUMBERS) {
            Check.due("byRule of no news", x.byRule(wrong, 0), NONE);
            Check.due("byRule of no hill", x.byRule(0, wrong), NONE);
        }
        Check.due("nothing happened", x.count(2) + x.count(4) + x.count(10), 0);
        x.drum(0, 0, false);
        Check.due("byRule of what it knows", x.byRule(0, 1), 0);
        x.run(5);
        Check.due("byRule later", x.byRule(1, 0), 0);
        x = Check.land(2, "news n at a; hears = day - 198;");
        Check.due("behind 200 days", x.byRule(0, 1), 200);
        x = Check.land(2, "news n at a; hears = day - 199;");
        Check.due("behind 201 days", x.byRule(0, 1), -2);
        x.night();
        Check.due("a day later", x.byRule(0, 1), 200);
        x = Check.land(3, "news n at a; order other;");
        Check.due("said is no answer to said", x.byRule(0, 2), 1);
        x.drum(0, 0, true);
        Check.due("but to denied", x.byRule(0, 2), 2);
    }

    private static void ruleWithSleepers() {
        HillDrums x = Check.land(3, "news n at a; sleeper b n 3;");
        Check.due("b sleeps on day 0", x.byRule(0, 2), 1);
        x.night();
        Check.due("it heard nothing on day 0", x.byRule(0, 2), 3);
        x.run(1);
        Check.due("2 days on", x.byRule(0, 2), 2);
    }

    private static void agreed() {
        HillDrums x = Check.land(4, "news n at a; news m at c;");
        Check.due("a, b on n, m", x.agreed(0, 1, 0, 1), 2);
        Check.due("b, a on m, n", x.agreed(1, 0, 1, 0), 2);
        Check.due("b, c on m", x.agreed(1, 2, 1, 1), 1);
        Check.due("c, b on n, m", x.agreed(2, 1, 0, 1), -2);
        Check.due("one and the same", x.agreed(1, 1, 0, 1), NONE);
        for (int wrong : NO_NUMBERS) {
            Check.due("no such a", x.agreed(wrong, 1, 0, 1), NONE);
            Check.due("no such b", x.agreed(0, wrong, 0, 1), NONE);
            Check.due("no such news", x.agreed(0, 1, wrong, 1), NONE);
            Check.due("no such other", x.agreed(0, 1, 0, wrong), NONE);
        }
        x.run(2);
        Check.due("a, b do by now", x.agreed(0, 1, 0, 1), 0);
        x = Check.land(3, "news n at b; hears = if to < 1 then 1 else 0;");
        Check.due("a, b", x.agreed(0, 1, 0, 0), 1);
        Check.due("b, c", x.agreed(1, 2, 0, 0), -2);
        Check.due("a, c", x.agreed(0, 2, 0, 0), -2);
    }

    private static void talk() {
        HillDrums x = Check.land(4, "news n at a; news m at c;");
        Check.due("talk of a day", x.talk(1), 2);
        Check.due("talk of two", x.talk(2), 5);
        for (int wrong : new int[] {0, -1, 201, Integer.MAX_VALUE, Integer.MIN_VALUE}) {
            Check.due("talk of " + wrong, x.talk(wrong), NONE);
        }
        x.drum(0, 0, false);
        Check.due("what was is none of it", x.talk(1), 2);
        x = Check.land(2, "news n at a; sleeper b n 1; sleeper a n 9;");
        Check.due("sleepers' too", x.talk(9), 19);
        Check.due("200 days", x.talk(200), 200 + 200 + 23);
    }

    private static void bestOrder() {
        HillDrums x = Check.land(4, "news n at a; order topic;");
        Check.due("free is best", x.bestOrder(0, 0), 0);
        Check.due("in a day: each hears ahead of its turn", x.bestOrder(0, 1), 1);
        Check.due("order is as it was", x.count(5), 1);
        for (int wrong : new int[] {-1, 2, Integer.MAX_VALUE}) {
            Check.due("no such what", x.bestOrder(0, wrong), NONE);
            Check.due("no such news", x.bestOrder(wrong == 2 ? 1 : wrong, 0), NONE);
        }
        x = Check.land(4, "news n at d; order topic;");
        Check.due("the other way", x.bestOrder(0, 1), 3);
        x = Check.land(3, "news n at a; news m at c; news o at b; hears = if from < 2 then 0 else 2 - day;");
        Check.due("of m", x.bestOrder(1, 1), 1);
        Check.due("of n by none", x.bestOrder(0, 1), -2);
        Check.due("of o by none", x.bestOrder(2, 0), -2);
        x = Check.land(2, "news n at a; hears = 0;");
        Check.due("by none", x.bestOrder(0, 0), -2);
        Check.due("by none", x.bestOrder(0, 1), -2);
        x = Check.land(1, "news n at a; order other;");
        Check.due("all know it", x.bestOrder(0, 0), 0);
        Check.due("all know it", x.bestOrder(0, 1), 0);
    }

    /** 59 DRUMS were today: under free a, which heard them, takes the last one, under topic b may have it. */
    private static void bestOrderOfAFullDay() {
        String law = "hears = if day < 1 then (to - 2) * (to - 2) else " + Check.only("30 12") + ";";
        HillDrums x = Check.land(4, "news n at d; order other;" + law);
        x.drum(3, 0, false);
        x.night();
        for (int i = 0; i < 59; i++) {
            Check.due("d drums for a", x.drum(3, 0, false), 1);
        }
        Check.due("best", x.bestOrder(0, 0), 1);
        Check.due("today", x.bestOrder(0, 1), 1);
        Check.due("by other tomorrow", x.byRule(0, 2), 2);
        x.undo();
        Check.due("best with room for two", x.bestOrder(0, 0), 0);
        Check.due("today", x.bestOrder(0, 1), 1);
    }

    private static void quiet() {
        HillDrums x = Check.land(3, "news n at a;");
        Check.due("c hears of nothing", x.quiet(0, 2, 0), -2);
        Check.due("ever", x.quiet(0, 2, 1), -2);
        Check.due("b needs nobody quiet", x.quiet(0, 1, 0), -2);
        Check.due("b", x.quiet(0, 1, 1), 1);
        Check.due("a knows it", x.quiet(0, 0, 0), NONE);
        x.run(1);
        Check.due("if a were quiet", x.quiet(0, 2, 0), 0);
        Check.due("c would know", x.quiet(0, 2, 1), 1);
        Check.due("b knows it", x.quiet(0, 1, 1), NONE);
        for (int wrong : NO_NUMBERS) {
            Check.due("no such news", x.quiet(wrong, 2, 0), NONE);
            Check.due("no such hill", x.quiet(0, wrong, 0), NONE);
            Check.due("no such what", x.quiet(0, 2, wrong == 99 ? 2 : wrong), NONE);
        }
        x = Check.land(3, "news n at a; sleeper a n 1;");
        Check.due("a is quiet asleep, too", x.quiet(0, 2, 0), -2);
        x = Check.land(3, "news n at a; sleeper b n 1; sleeper a n 1;");
        Check.due("b sleeps", x.quiet(0, 2, 1), 1);
        Check.due("and nobody need be quiet", x.quiet(0, 2, 0), -2);
        x = Check.land(2, "news n at a; news m at b; order any;");
        Check.due("a hill itself may be the one", x.quiet(1, 0, 0), 0);
        Check.due("soonest", x.quiet(1, 0, 1), 1);
    }

    public static void main(String[] args) {
        byRule();
        ruleWithSleepers();
        agreed();
        talk();
        bestOrder();
        bestOrderOfAFullDay();
        quiet();
        Check.end();
    }
}

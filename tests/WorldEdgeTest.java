/** Promises 6 to 13, and 24, at each limit that the document names, and each refused call: nothing happens. */
public final class WorldEdgeTest {
    private static final int NONE = Check.NONE;
    private static final int MOST = Integer.MAX_VALUE;
    private static final int LEAST = Integer.MIN_VALUE;
    private static final String TO_THE_31 = "2048 * 1024 * 1024";
    private static final String[] ORDERS = {"free", "topic", "any", "other"};

    private WorldEdgeTest() {
    }

    private static void law(String law, int heard) {
        HillDrums x = Check.told("hill a 0 0; hill b 3 4; wind 5 1; fog 2; hears = " + law + ";");
        Check.due("hears by " + law, x.hears(0, 1, 0), heard);
    }

    private static void whoIsAsked() {
        HillDrums x = Check.land(6, "hears = 0;");
        for (int hill = 0; hill < 6; hill++) {
            Check.due("itself", x.hears(hill, hill, 0), 1);
            Check.due("itself on the last day", x.hears(hill, hill, 9999), 1);
            Check.due("another", x.hears(hill, (hill + 1) % 6, 9999), 0);
        }
        for (int wrong : new int[] {-1, 6, 7, MOST, LEAST}) {
            Check.due("no such a", x.hears(wrong, 0, 0), NONE);
            Check.due("no such b", x.hears(0, wrong, 0), NONE);
            Check.due("neither", x.hears(wrong, wrong, 0), NONE);
        }
        for (int wrong : new int[] {-1, 10000, 10001, MOST, LEAST}) {
            Check.due("no such day", x.hears(0, 1, wrong), NONE);
            Check.due("no such day for itself", x.hears(1, 1, wrong), NONE);
        }
        Check.due("itself, though divided by 0", Check.land(1, "hears = 1 / 0;").hears(0, 0, 0), 1);
        x = Check.land(6, "hears = if from < to then 7 - day - to else 7 - day - from;");
        Check.due("f of a on day 1", x.hears(0, 5, 1), 1);
        Check.due("f of a on day 2", x.hears(0, 5, 2), 0);
        Check.due("a of f on day 1", x.hears(5, 0, 1), 1);
        Check.due("a of f on day 2", x.hears(5, 0, 2), 0);
    }

    private static void moreThanNothing() {
        law("0", 0);
        law("1", 1);
        law("0 - 1", 0);
        law("1 - 1", 0);
        law(TO_THE_31, 0);
        law(TO_THE_31 + " - 1", 1);
        law("0 - " + TO_THE_31, 0);
        law(TO_THE_31 + " + " + TO_THE_31, 0);
        law(TO_THE_31 + " + " + TO_THE_31 + " + 1", 1);
        law(TO_THE_31 + " * 2 + 1", 1);
        law("9999 * 9999 * 9999 * 9999", 1);
        law("9999 * 9999 * 9999", 0);
        law("9999 * 9999 * 9999 * 9999 * 9999 * 9999", 0);
        law("(" + TO_THE_31 + " - 1) + 1", 0);
    }

    private static void roundedTowardsNothing() {
        law("7 / 2 - 3", 0);
        law("7 / 2 - 2", 1);
        law("(0 - 7) / 2 + 3", 0);
        law("(0 - 7) / 2 + 4", 1);
        law("7 / (0 - 2) + 3", 0);
        law("7 / (0 - 2) + 4", 1);
        law("(0 - 7) / (0 - 2) - 3", 0);
        law("(0 - 7) / (0 - 2) - 2", 1);
        law("1 / 2 + 0", 0);
        law("(0 - 1) / 2 + 1", 1);
        law(TO_THE_31 + " / (0 - 1)", 0);
        law("1 + " + TO_THE_31 + " / (0 - 1)", 0);
        law(TO_THE_31 + " / (0 - 1) - 1", 1);
    }

    private static void oneLessThanTheOther() {
        law("if 1 < 2 then 1 else 0", 1);
        law("if 2 < 2 then 1 else 0", 0);
        law("if 3 < 2 then 1 else 0", 0);
        law("if 0 - 1 < 0 then 1 else 0", 1);
        law("if " + TO_THE_31 + " < 1 then 1 else 0", 1);
        law("if 1 < " + TO_THE_31 + " then 1 else 0", 0);
        law("if " + TO_THE_31 + " < " + TO_THE_31 + " - 1 then 1 else 0", 1);
        law("if " + TO_THE_31 + " - 1 < " + TO_THE_31 + " then 1 else 0", 0);
        String[] laws = {"if 1 < 2 then %d else ", "if 2 < 1 then %d else "};
        for (int first = 0; first <= 4; first++) {
            for (int heard = 0; heard < 2; heard++) {
                StringBuilder law = new StringBuilder();
                for (int i = 0; i < 4; i++) {
                    law.append(String.format(laws[i >= first ? 0 : 1], i == first ? heard : 1 - heard));
                }
                law(law.append(first == 4 ? heard : 1 - heard).toString(), heard);
            }
        }
    }

    private static void dividedByNothing() {
        for (String law : new String[] {"1 / 0", "5 + 1 / 0", "5 - 1 / 0", "1 / 0 + 5", "5 + (1 / 0) * 0", "1 / (1 / 0)", "5 + 1 / (7 - far)",
            "if 1 / 0 < 1 then 5 else 5", "if 1 < 1 / 0 then 5 else 5", "if 1 < 2 then 5 + 1 / 0 else 5", "if 2 < 1 then 5 else 5 + 1 / 0",
            "if 2 < 1 then 5 else if 1 / 0 < 1 then 5 else 5", "0 / 0 + 1", "5 + 1 / (wind - 5)"}) {
            law(law, 0);
        }
        law("if 1 < 2 then 5 else 1 / 0", 1);
        law("if 2 < 1 then 1 / 0 else 5", 1);
        law("if 1 < 2 then 5 else if 1 / 0 < 1 then 1 else 1", 1);
        law("if 1 < 2 then 5 else if 1 < 2 then 1 / 0 else 1 / 0", 1);
        law("0 / 1 + 1", 1);
        law("5 + 1 / (8 - far)", 1);
    }

    private static void dividedByNothingAgainAndAgain() {
        for (int less = 2; less <= 4; less++) {
            HillDrums x = Check.told("hill a 0 0; hill b 0 0; hears = 9 - (8 - (7 - (6 - (5 - 4 / to)))) - " + less + ";");
            for (int day = 0; day < 100; day++) {
                Check.due("divided by 0 on day " + day, x.hears(1, 0, day), 0);
                Check.due("divided by 1 on day " + day, x.hears(0, 1, day), less < 3 ? 1 : 0);
            }
        }
    }

    private static void whatALawKnows() {
        law("8 - far", 1);
        law("7 - far", 0);
        law("far - 7", 0);
        law("wind - 4", 1);
        law("wind - 5", 0);
        law("fog - 1", 1);
        law("fog - 2", 0);
        law("day", 0);
        law("day + 1", 1);
        law("from", 0);
        law("to", 1);
        law("to - 1", 0);
        HillDrums x = Check.told("hill a 99 99; hill b 0 0; hears = far - 197;");
        Check.due("198 apart", x.hears(0, 1, 0) + x.hears(1, 0, 0), 2);
        x = Check.told("hill a 99 99; hill b 0 0; hears = far - 198;");
        Check.due("198 apart, not more", x.hears(0, 1, 0) + x.hears(1, 0, 0), 0);
        x = Check.told("hill a 5 9; hill b 5 0; hill c 0 0;");
        Check.due("9 apart, of no law told", x.hears(0, 1, 0) + x.hears(1, 0, 0), 2);
        Check.due("14 apart", x.hears(0, 2, 0), 0);
        x = Check.told("hill a 5 9; hill b 0 4;");
        Check.due("10 apart, of no law told", x.hears(0, 1, 0) + x.hears(1, 0, 0), 0);
        Check.due("the last law", Check.told("hill a 0 0; hill b 0 0; hears = 1; hears = 0;").hears(0, 1, 0), 0);
    }

    /** Rows of 0, 1, 11 and 12 numbers, of which the last is another one: again and again. */
    private static void rowsByDays() {
        for (String row : new String[] {"wind", "fog"}) {
            for (int size : new int[] {1, 2, 11, 12}) {
                String text = row + " 3".repeat(size - 1) + " 99; hears = " + row + " - 98;";
                HillDrums x = Check.told("hill a 0 0; hill b 0 0;" + text);
                for (int day = 0; day <= 3 * size; day++) {
                    Check.due(row + " of " + size + " on day " + day, x.hears(0, 1, day), day % size == size - 1 ? 1 : 0);
                }
                Check.due(row + " on day 9999", x.hears(0, 1, 9999), 9999 % size == size - 1 ? 1 : 0);
            }
            HillDrums x = Check.told("hill a 0 0; hill b 0 0;" + row + " 7;" + row + "; hears = 1 - " + row + ";");
            Check.due("no numbers: 0", x.hears(0, 1, 0) + x.hears(0, 1, 77), 2);
            x = Check.told("hill a 0 0; hill b 0 0; hears = 1 - " + row + ";");
            Check.due("no row: 0", x.hears(0, 1, 0) + x.hears(0, 1, 77), 2);
        }
    }

    private static void whatOfNews() {
        HillDrums x = Check.land(6, "news n at a; news m at f; news o at b; news p at f;");
        for (int wrong : new int[] {-1, 6, MOST, LEAST}) {
            Check.due("no such hill", x.news(wrong, 0, 0), NONE);
            Check.due("no such news", x.news(0, wrong == 6 ? 4 : wrong, 0), NONE);
            Check.due("no such what", x.news(0, 0, wrong == 6 ? 5 : wrong), NONE);
            Check.due("no such what of what it does not know", x.news(1, 0, wrong == 6 ? 5 : wrong), NONE);
        }
        Check.due("the last of all", x.news(5, 3, 0), 1);
        int[] unknown = {0, -2, -2, -2, 0};
        int[] atHome = {1, 0, 5, 0, 0};
        for (int what = 0; what < 5; what++) {
            Check.due("not known " + what, x.news(5, 0, what), unknown[what]);
            Check.due("at home " + what, x.news(5, 3, what), atHome[what]);
        }
    }

    /** What was heard first stays; what is heard later, and of whom, changes nothing of it. */
    private static void firstStays() {
        HillDrums x = Check.land(3, "news n at a; news m at c; order free;");
        x.night();
        Check.due("a denies n", x.drum(0, 0, true), 1);
        x.night();
        Check.due("a says n", x.drum(0, 0, false), 1);
        Check.due("b says n", x.drum(1, 0, false), 2);
        x.night();
        Check.due("b denies n", x.drum(1, 0, true), 2);
        int[][] due = {{1, 0, 0, 0, 1}, {1, 1, 0, 1, 1}, {1, 2, 1, 0, 1}};
        for (int hill = 0; hill < 3; hill++) {
            for (int what = 0; what < 5; what++) {
                Check.due("of hill " + hill + " " + what, x.news(hill, 0, what), due[hill][what]);
            }
        }
        Check.due("of m nothing", x.news(1, 1, 0), 0);
    }

    private static void howManyHear() {
        for (int hear = 0; hear < 6; hear++) {
            HillDrums x = Check.land(6, "news n at a; hears = " + (hear + 1) + " - to;");
            Check.due("drum that " + hear + " hear", x.drum(0, 0, false), hear);
            Check.due("bits", x.drummed(0, 3), (1 << hear + 1) - 1);
            Check.due("known", x.count(13), 1 + hear);
        }
        HillDrums x = Check.land(6, "news n at f; hears = 0;");
        Check.due("none", x.drum(5, 0, true), 0);
        Check.due("its own alone", x.drummed(0, 3), 32);
    }

    /** NONE ahead of -3, -3 ahead of -2. */
    private static void whichRefusalFirst() {
        for (boolean denied : new boolean[] {false, true}) {
            HillDrums x = Check.land(3, "news n at a; news m at c; order any;");
            for (int wrong : new int[] {-1, 3, MOST, LEAST}) {
                int news = wrong == 3 ? 2 : wrong;
                Check.due("no such hill", x.drum(wrong, 0, denied), NONE);
                Check.due("no such news", x.drum(0, news, denied), NONE);
                Check.due("may no such hill", x.may(wrong, 0, denied), NONE);
                Check.due("may no such news", x.may(0, news, denied), NONE);
            }
            Check.due("a says n", x.drum(0, 0, false), 1);
            Check.due("an answer", x.drum(1, 0, denied), -2);
            Check.due("an answer, and what it does not know", x.drum(1, 1, denied), -3);
            Check.due("may an answer", x.may(1, 0, denied), 0);
            Check.due("may what it does not know", x.may(1, 1, denied), -3);
            Check.due("one drum", x.count(3), 1);
            for (int i = 1; i < 60; i++) {
                Check.due("drum " + i, x.drum(0, 0, denied), 1);
            }
            Check.due("an answer behind 60", x.drum(1, 0, denied), -3);
            Check.due("may an answer behind 60", x.may(1, 0, denied), -3);
            Check.due("no such one behind 60", x.drum(3, 0, denied), NONE);
            Check.due("may no such one behind 60", x.may(0, 2, denied), NONE);
        }
    }

    private static void sixtyADay() {
        for (int drums = 58; drums <= 60; drums++) {
            HillDrums x = Check.land(3, "news n at a; news m at c; order free; sleeper c m 1;");
            for (int i = 0; i < drums; i++) {
                Check.due("drum " + i, x.drum(0, 0, i % 2 == 0), 1);
            }
            boolean room = drums < 60;
            Check.due("may behind " + drums, x.may(2, 1, false), room ? 1 : -3);
            Check.due("may b", x.may(1, 0, true), room ? 1 : -3);
            // By the RULE as many as there is room for: a of n, b of n, then c of n, and of m.
            Check.due("talk behind " + drums, x.talk(1), Math.min(60 - drums, 4) + 1);
            Check.due("drum behind " + drums, x.drum(2, 1, false), room ? 1 : -3);
            Check.due("drums of the day", x.count(3), Math.min(drums + 1, 60));
            Check.due("things done", x.count(10), Math.min(drums + 1, 40));
            Check.due("last but one", x.drummed(58, 0), drums == 58 ? 2 : 0);
            Check.due("the last", x.drummed(59, 0), drums == 58 ? NONE : drums == 59 ? 2 : 0);
            Check.due("behind the last", x.drummed(60, 0), NONE);
            int all = x.count(4);
            Check.due("night", x.night(), 1);
            Check.due("the sleeper drums whatever the day was", x.count(4), all + 1);
            Check.due("b knows m", x.news(1, 1, 0), 1);
            Check.due("a new day", x.may(0, 0, false), 1);
        }
    }

    /** c heard a (and d) say or deny n or m: what may it drum of each by each order? */
    private static void whatIsAnAnswer() {
        for (int order = 0; order < 4; order++) {
            for (int heard = 0; heard < 4; heard++) {
                HillDrums x = Check.land(3, "news n at a; news m at a; news o at b; order " + ORDERS[order] + "; hears = 1;");
                x.drum(0, 0, false);
                x.drum(0, 1, false);
                x.night();
                Check.due("lawful on the next day", x.may(2, 0, false), 1);
                x.drum(0, heard / 2, heard % 2 == 1);
                for (int asked = 0; asked < 4; asked++) {
                    boolean alike = heard / 2 == asked / 2;
                    boolean answer = order == 1 ? alike : order == 2 || order == 3 && alike && heard % 2 != asked % 2;
                    String call = ORDERS[order] + ": heard " + heard + ", asked " + asked;
                    Check.due(call, x.may(2, asked / 2, asked % 2 == 1), answer ? 0 : 1);
                    Check.due(call + " of its own", x.may(0, asked / 2, asked % 2 == 1), 1);
                }
                Check.due("drum", x.drum(2, heard / 2, heard % 2 == 0), order == 0 ? 2 : -2);
            }
        }
    }

    private static void bothWaysHeard() {
        HillDrums x = Check.land(3, "news n at a; order other; hears = 1;");
        x.drum(0, 0, false);
        Check.due("said is no answer to said", x.may(1, 0, false), 1);
        Check.due("denied is one", x.may(1, 0, true), 0);
        x.drum(0, 0, true);
        Check.due("now each is one", x.may(1, 0, false) + x.may(1, 0, true), 0);
        Check.due("a heard none", x.may(0, 0, false) + x.may(0, 0, true), 2);
    }

    /** What is not heard, or heard by night, is answered by nobody. */
    private static void noAnswers() {
        for (String order : ORDERS) {
            HillDrums x = Check.land(3, "news n at a; order " + order + "; sleeper a n 1;");
            x.night();
            Check.due("heard by night", x.may(1, 0, false) + x.may(1, 0, true), 2);
            x.drum(1, 0, false);
            x.night();
            x.drum(0, 0, false);
            Check.due("c did not hear a", x.may(2, 0, false) + x.may(2, 0, true), 2);
            x.night();
            Check.due("heard yesterday", x.may(1, 0, false) + x.may(1, 0, true), 2);
        }
    }

    private static void ofTheDay() {
        HillDrums x = Check.land(6, "news n at a; news m at b; news o at c; news p at f; hears = 1;");
        x.drum(5, 3, true);
        x.drum(0, 0, false);
        int[][] due = {{5, 3, 1, 63}, {0, 0, 0, 63}};
        for (int i = 0; i < 2; i++) {
            for (int what = 0; what < 4; what++) {
                Check.due("drummed " + i + " " + what, x.drummed(i, what), due[i][what]);
            }
            Check.due("what 4", x.drummed(i, 4), NONE);
            Check.due("what -1", x.drummed(i, -1), NONE);
            Check.due("what far out", x.drummed(i, MOST), NONE);
        }
        for (int wrong : new int[] {-1, 2, 3, 59, 60, MOST, LEAST}) {
            Check.due("drummed " + wrong, x.drummed(wrong, 0), NONE);
        }
        x.undo();
        Check.due("undone", x.drummed(1, 0), NONE);
        x.night();
        Check.due("a new day", x.drummed(0, 0), NONE);
    }

    /** Each number of days a sleeper can have: on days 0, that number, twice it, and on no other. */
    private static void sleepersDays() {
        for (int days = 1; days <= 9; days++) {
            HillDrums x = Check.land(1, "news n at a; sleeper a n " + days + ";");
            int all = 0;
            for (int day = 0; day <= 2 * days + 1; day++) {
                all += day % days == 0 ? 1 : 0;
                Check.due("night", x.night(), day + 1);
                Check.due("drums in all by " + days + " behind day " + day, x.count(4), all);
                Check.due("none of the day's", x.count(3), 0);
            }
        }
    }

    private static void sleepersOneByOne() {
        HillDrums x = Check.land(5, "news n at a; sleeper a n 1; sleeper b n 1; sleeper c n 1; sleeper d n 1;");
        x.night();
        Check.due("as told: all four", x.count(4), 4);
        Check.due("e knows", x.news(4, 0, 1), 0);
        Check.due("from d", x.news(4, 0, 2), 3);
        x = Check.land(5, "news n at a; sleeper d n 1; sleeper c n 1; sleeper b n 1; sleeper a n 1;");
        for (int day = 0; day < 4; day++) {
            Check.due("night", x.night(), day + 1);
            Check.due("one more each night", x.count(4), (day + 1) * (day + 2) / 2);
            Check.due("since", x.news(day + 1, 0, 1), day);
            Check.due("not yet", x.news(4, 0, 0), day == 3 ? 1 : 0);
        }
        x = Check.land(2, "news n at a; sleeper a n 1; sleeper a n 1; sleeper b n 2; sleeper b n 3;");
        x.night();
        Check.due("each of them", x.count(4), 4);
        x.night();
        Check.due("twice a", x.count(4), 6);
        x.night();
        Check.due("and b", x.count(4), 9);
        x = Check.land(2, "news n at a; hears = day; sleeper a n 1;");
        x.night();
        Check.due("nobody hears on day 0", x.news(1, 0, 0), 0);
        x.night();
        Check.due("since day 1", x.news(1, 0, 1), 1);
    }

    private static void sleepersSay() {
        HillDrums x = Check.land(3, "news n at a; order any; sleeper a n 1; sleeper b n 1;");
        x.drum(0, 0, true);
        Check.due("b may not", x.may(1, 0, false), 0);
        x.night();
        Check.due("lawful or not", x.count(4), 3);
        Check.due("b heard it denied first", x.news(1, 0, 3), 1);
        Check.due("c heard it said first", x.news(2, 0, 3), 0);
        Check.due("c since", x.news(2, 0, 1), 0);
        Check.due("c from", x.news(2, 0, 2), 1);
        Check.due("b clashes", x.clashes(0), 2);
        x.drum(1, 0, true);
        Check.due("a heard b say it by night, deny it by day", x.clashes(0), 7);
        Check.due("c's first stays", x.news(2, 0, 3), 0);
    }

    private static void runs() {
        for (int n : new int[] {1, 2, 99, 100}) {
            HillDrums x = Check.land(2, "news n at a;");
            Check.due("run " + n, x.run(n), n);
            Check.due("one thing", x.count(10), 1);
            Check.due("days", x.count(2), n);
            Check.due("a by each, b by each but where it heard a", x.count(4), n);
            Check.due("undo", x.undo(), true);
            Check.due("undone", x.count(2) + x.count(4), 0);
        }
        HillDrums x = Check.land(3, "news n at a; news m at a; order free;");
        x.run(1);
        Check.due("each says what it knows by then", x.count(4), 6);
        x = Check.land(3, "news n at c; news m at c; order free;");
        x.run(1);
        Check.due("c says both", x.count(4), 2);
        x.run(1);
        Check.due("then b and c, and a behind none of them", x.count(4), 2 + 4);
        x.run(1);
        Check.due("then all", x.count(4), 6 + 6);
    }

    /** What may be of the day behind so many of its DRUMS, by the RULE. */
    private static void runOfAFullDay() {
        for (int drums = 58; drums <= 60; drums++) {
            HillDrums x = Check.land(2, "news n at a; news m at a; order free;");
            x.drum(0, 0, false);
            x.drum(0, 1, false);
            for (int i = 2; i < drums; i++) {
                x.drum(0, 0, false);
            }
            Check.due("run", x.run(1), 1);
            Check.due("no more than 60", x.count(4), Math.min(60, drums + 4));
            Check.due("run", x.run(1), 2);
            Check.due("four on the next day", x.count(4), Math.min(60, drums + 4) + 4);
        }
    }

    private static void undo(int things) {
        HillDrums x = Check.land(2, "news n at a; order free;");
        for (int i = 0; i < things; i++) {
            switch (i % 3) {
                case 0 -> x.drum(0, 0, i % 2 == 0);
                case 1 -> x.night();
                default -> x.run(2);
            }
        }
        int kept = Math.min(things, 40);
        Check.due("things that can be undone of " + things, x.count(10), kept);
        for (int i = things - 1; i >= things - kept; i--) {
            Check.due("undo " + i, x.undo(), true);
            Check.due("the day behind " + i + " of " + things, x.count(2), i / 3 * 3 + (i % 3 == 2 ? 1 : 0));
            Check.due("left", x.count(10), i - (things - kept));
            Check.due("of the day", x.count(3), i % 3 == 1 ? 1 : 0);
        }
        int day = x.count(2);
        int all = x.count(4);
        Check.due("undo no more of " + things, x.undo(), false);
        Check.due("nothing happened", x.count(2) * 1000 + x.count(4), day * 1000 + all);
    }

    private static void undoIsNoThingDone() {
        HillDrums x = Check.land(3, "news n at a; news m at c;");
        x.run(0);
        x.run(101);
        x.run(-1);
        x.drum(1, 0, false);
        x.drum(0, 9, false);
        x.tell(0, 0, 0);
        x.hold(0);
        x.forget();
        x.talk(3);
        Check.due("no things done", x.count(10), 0);
        Check.due("undo", x.undo(), false);
        x.drum(0, 0, false);
        x.drum(1, 0, false);
        Check.due("a refused one is none", x.count(10), 1);
        Check.due("undo", x.undo(), true);
        Check.due("undo", x.undo(), false);
        Check.due("known", x.news(1, 0, 0), 0);
        Check.due("lawful", x.may(0, 0, false), 1);
    }

    private static void clashing() {
        HillDrums x = Check.land(4, "news n at a; news m at c; order free; hears = 1;");
        for (int wrong : new int[] {-1, 2, MOST, LEAST}) {
            Check.due("clashes of no such one", x.clashes(wrong), NONE);
        }
        x.drum(0, 0, false);
        x.drum(0, 0, false);
        Check.due("said twice", x.clashes(0), 0);
        x.drum(2, 1, true);
        Check.due("another news denied", x.clashes(0) + x.clashes(1), 0);
        x.drum(1, 0, true);
        Check.due("c and d heard both; a, b one of them", x.clashes(0), 12);
        Check.due("not of m", x.clashes(1), 0);
        x.night();
        x.night();
        Check.due("on whatever days", x.clashes(0), 12);
        x.drum(2, 0, false);
        Check.due("a too: b denied it; b itself heard nobody deny it", x.clashes(0), 13);
        for (int hill = 0; hill < 4; hill++) {
            Check.due("of hill " + hill, x.news(hill, 0, 4), hill == 1 ? 0 : 1);
            Check.due("of hill " + hill + " and m", x.news(hill, 1, 4), 0);
        }
        x = Check.land(2, "news n at a; order free;");
        x.drum(0, 0, false);
        x.drum(0, 0, true);
        Check.due("both by the same one; its own are none", x.clashes(0), 2);
    }

    private static void refusedCalls() {
        Seen.unchanged("an answer", Seen::busy, x -> Check.due("drum", x.drum(2, 0, false), -2));
        Seen.unchanged("not known", Seen::busy, x -> Check.due("drum", x.drum(3, 0, false), -3));
        Seen.unchanged("no such hill", Seen::busy, x -> Check.due("drum", x.drum(4, 0, false), NONE));
        Seen.unchanged("no such news", Seen::busy, x -> Check.due("drum", x.drum(0, 2, true), NONE));
        Seen.unchanged("run -1", Seen::busy, x -> Check.due("run", x.run(-1), NONE));
        Seen.unchanged("run 101", Seen::busy, x -> Check.due("run", x.run(101), NONE));
        Seen.unchanged("run 0", Seen::busy, x -> Check.due("run", x.run(0), 1));
        Seen.unchanged("may", Seen::busy, x -> Check.due("may", x.may(1, 0, false) * 10 + x.may(2, 0, false), 10));
        Seen.unchanged("asked", Seen::busy, x -> x.news(x.hears(0, 0, 0), x.clashes(0), x.drummed(0, 0)));
        Seen.unchanged("done and undone", Seen::busy, x -> {
            x.drum(1, 0, false);
            x.night();
            x.run(3);
            Check.due("undo", x.undo() && x.undo() && x.undo(), true);
        });
        HillDrums x = Check.land(2, "news n at a;");
        for (int i = 0; i < 60; i++) {
            x.drum(0, 0, true);
        }
        Check.due("the 61st", x.drum(0, 0, false), -3);
        Check.due("b did not hear it", x.clashes(0), 0);
        Check.due("none of the day, none in all", x.count(3) + x.count(4), 120);
    }

    public static void main(String[] args) {
        whoIsAsked();
        moreThanNothing();
        roundedTowardsNothing();
        oneLessThanTheOther();
        dividedByNothing();
        dividedByNothingAgainAndAgain();
        whatALawKnows();
        rowsByDays();
        whatOfNews();
        firstStays();
        howManyHear();
        whichRefusalFirst();
        sixtyADay();
        whatIsAnAnswer();
        bothWaysHeard();
        noAnswers();
        ofTheDay();
        sleepersDays();
        sleepersOneByOne();
        sleepersSay();
        runs();
        runOfAFullDay();
        for (int things : new int[] {0, 1, 38, 39, 40, 41, 42, 79, 80, 81}) {
            undo(things);
        }
        undoIsNoThingDone();
        clashing();
        refusedCalls();
        Check.end();
    }
}

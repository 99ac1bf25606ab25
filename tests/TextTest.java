/** Promises 1 to 5: a new object, the tape, texts and their FAULTS. */
public final class TextTest {
    private static final String SIX = "hill a 1 1;hill b 1 1;hill c 1 1;hill d 1 1;hill e 1 1;hill f 1 1;";
    private static final String FOUR = "hill a 1 1;news na at a;news nb at a;news nc at a;news nd at a;";

    private TextTest() {
    }

    private static void newObject() {
        HillDrums x = new HillDrums();
        for (int what = 0; what < 14; what++) {
            Check.due("count " + what + " of a new one", x.count(what), what == 5 ? 1 : 0);
        }
        Check.due("place of a new one", x.place(), Check.NONE);
        Check.due("NONE", HillDrums.NONE, -1);
        Check.due("undo of a new one", x.undo(), false);
        Check.due("restore of a new one", x.restore(0), false);
        Check.due("drummed of a new one", x.drummed(0, 0), Check.NONE);
        Check.due("hears of a new one", x.hears(0, 0, 0), Check.NONE);
        Check.due("talk of a new one", x.talk(200), 0);
    }

    private static void tape() {
        HillDrums x = new HillDrums();
        Check.due("back of nothing", x.back(0), 0);
        Check.due("back of too much", x.back(1), Check.NONE);
        for (int i = 1; i <= 100; i++) {
            Check.due("feed", x.feed(0x20202020, 0x20202020, 0x20202020, 0x20202020, 0x20202020), 20 * i);
        }
        Check.due("feed of too much", x.feed(0, 0, 0, 0, 0), Check.NONE);
        Check.due("bytes", x.count(9), 2000);
        Check.due("back below 0", x.back(-1), Check.NONE);
        Check.due("back of the least", x.back(Integer.MIN_VALUE), Check.NONE);
        Check.due("back 19", x.back(19), 1981);
        Check.due("feed of 1 too many", x.feed(0, 0, 0, 0, 0), Check.NONE);
        Check.due("back 1", x.back(1), 1980);
        Check.due("feed to the brim", x.feed(0x09090909, 0x0a0a0a0a, 0x0d0d0d0d, 0x20202020, 0x2020203b), 2000);
        Check.due("back 2001", x.back(2001), Check.NONE);
        Check.due("read of blanks and ;", x.read(), 1);
        Check.due("place of the ;", x.place(), 1999);
        Check.due("bytes behind read", x.count(9), 0);
        Check.due("back behind read", x.back(1), Check.NONE);
        Check.due("read of nothing", x.read(), 0);
        Check.due("place behind", x.place(), Check.NONE);
    }

    private static void bytesInOrder() {
        HillDrums x = new HillDrums();
        Check.due("feed", x.feed(0x68696c6c, 0x20612031, 0x20323b80, 0xff000000, 0), 20);
        Check.due("read", x.read(), 1);
        Check.due("the byte 128", x.place(), 11);
        Check.due("feed", x.feed(0x68696c6c, 0x20612031, 0x20323b80, 0xff000000, 0), 20);
        Check.due("back", x.back(9), 11);
        Check.due("read", x.read(), 0);
        Check.due("hills", x.count(0), 1);
    }

    private static void syntax() {
        for (String text : new String[] {"", " \t\r\n", "hill a 1 2;", "hill\ta\n1\r2 ; ", "hill a1 2;", "hill abcdefgh 0001 2;",
            "hears=1;", "hears = far+wind-fog*day/from+(to);", "hears = if 1<2 then 3 else if 4<5 then 6 else 7;",
            "wind;fog;", "wind 1;wind 2 3;fog 0 99;", "order free;order topic;order any;order other;", "hears = 9999;"}) {
            Check.fine(text);
        }
        for (String marked : new String[] {"hill@", "hill a@", "hill a 1 2@", "hill a 1 2  @", "hill a 1 2;@;", "@;", "@hilla 1 2;",
            "hill @hill 1 2;", "hill @abcdefghi 1 2;", "hill a @00001 2;", "hill @A 1 2;", "hill a @-1 2;", "hill a 1@, 2;",
            "hill a 1 2 @3;", "hill a 1 @b 2;", "@a", "@1", "@at;", "hill a@\f1 2;", "hill a 1 2;@\u00e9", "hill a@_b 1 2;",
            "hill a 1 2; news @at at a;", "hill a 1 2; news b @a;", "hill a 1 2; news b at @1;", "news b at a@",
            "hears @1;", "hears = @;", "hears = 1 +@;", "hears = (1@;", "hears = 1@);", "hears = @-1;", "hears = @a;", "hears = @news;",
            "hears = 1 @2;", "hears = 1 @< 2;", "hears = if 1 @then 2 else 3;", "hears = if 1 < 2 @else 3;", "hears = if 1 < 2 then 3@;",
            "hears = if 1 < 2 @< 3;", "hears = if 1 < 2 then 3 else@;", "hears = (@if 1 < 2 then 3 else 4);", "hears = (@);", "hears = 2 * @* 3;",
            "hears = if 1 < 2 then @if 3 < 4 then 5 else 6 else 7;", "hears = 1 @then 2;",
            "wind @a;", "wind 1 @- 2;", "wind 1@, 2;", "fog 1 2@", "fog @fog;", "order@;", "order @far;", "order free @topic;", "order @a;", "order @1;",
            "sleeper a b @c;", "sleeper a @1;", "sleeper @at b 1;", "sleeper a b 1 @2;", "hill a 1 2; @hills b 1 2;"}) {
            Check.fault(1, marked);
        }
    }

    private static void room() {
        Check.fine(SIX);
        Check.fine(FOUR);
        Check.fault(2, SIX + "@hill g 1 1;");
        Check.fault(2, SIX + "@hill");
        Check.fault(2, SIX + "wind 3; @hill 1");
        Check.fault(1, SIX + "@g 1 1; hill h 1 1;");
        Check.fault(2, FOUR + "@news ne at a;");
        Check.fault(2, FOUR + "@news");
        String sleepers = FOUR + "sleeper a na 1;".repeat(4);
        Check.fine(sleepers);
        Check.fault(2, sleepers + "@sleeper a na 1;");
        Check.fine("wind 1 2 3 4 5 6 7 8 9 10 11 12;fog 1 2 3 4 5 6 7 8 9 10 11 12;wind 1;");
        Check.fault(2, "wind 1 2 3 4 5 6 7 8 9 10 11 12 @13;");
        Check.fault(2, "fog 1 2 3 4 5 6 7 8 9 10 11 12 @130;");
        Check.fault(1, "fog 1 2 3 4 5 6 7 8 9 10 11 12 @13000;");
        String ifs = "hears = " + "if 1 < 2 then 3 else ".repeat(4);
        Check.fine(ifs + "5;" + ifs + "6;");
        Check.fault(2, ifs + "@if 1 < 2 then 3 else 4;");
        Check.fault(2, ifs + "@if");
        Check.fine("hears = ((((((1)))))) + ((((((far))))));");
        String six = "((((((1))))))";
        Check.fine("hears = if " + six + " < " + six + " then " + six + " else " + six + ";");
        Check.fault(2, "hears = if 1 < ((((((@(1))))))) then 3 else 4;");
        Check.fault(2, "hears = if 1 < 2 then ((((((@(1))))))) else 4;");
        Check.fault(2, "hears = ((((((@(1)))))));");
        Check.fault(2, "hears = 1 + (2 * (3 - (4 / (5 + (6 - (7 + @(");
        Check.fault(2, "hears = if ((((((@(1)))))) < 2 then 3 else 4;");
    }

    /** NAMES that are like one another, and like words. */
    private static void names() {
        Check.fine("hill b 1 1;hill ab 1 1;hill ba 1 1;hill aa 1 1;hill bb 1 1;hill zzzzzzzz 1 1;news a at ab;news z at zzzzzzzz;");
        Check.fine("hill fill 1 1;hill dog 1 1;hill ox 1 1;hill i 1 1;hill hills 1 1;hill hil 1 1;news new at dog;news an at ox;");
        Check.fine("hill xzzzzzzz 1 1;hill yzzzzzzz 1 1;hill zzzzzzzx 1 1;hill zzzzzzzy 1 1;news azzzzzzz at zzzzzzzx;");
        for (String word : ModelText.WORDS) {
            Check.fault(1, "hill @" + word + " 1 1;");
            Check.fine("hill x" + word + " 1 1; news " + word + "x at x" + word + ";");
        }
    }

    private static void tokens() {
        String most = "wind;".repeat(200);
        Check.fine(most);
        Check.fault(2, most + "@wind;");
        Check.fault(2, most + "@hill");
        Check.fault(1, most + "@x");
        Check.fault(1, most + "@#");
        Check.fault(1, most.substring(0, 995) + "wind@");
        Check.fault(2, most.substring(0, 995) + "wind 1@;");
        Check.fault(1, most.substring(0, 995) + "wind 1@,");
        Check.fault(2, "hears = 1" + "+1".repeat(198) + "+@1;");
        Check.fine("hears = 1" + "+1".repeat(198) + ";");
        Check.fault(2, SIX + "@hill " + "x ".repeat(500));
    }

    private static void meaning() {
        Check.fault(3, "hill a 1 1; hill @a 2 2;");
        Check.fault(3, "hill a 1 1; news @a at a;");
        Check.fault(3, "hill a 1 1; news b at a; news @b at a;");
        Check.fault(3, "hill a 1 1; news b at a; hill @b 1 1;");
        Check.fine("hill a 1 1; hill aa 1 1; news b at a; news ab at aa;");
        Check.fault(4, "news b at @a;");
        Check.fault(4, "news b at @a; hill a 1 1;");
        Check.fault(4, "hill a 1 1; news b at @b;");
        Check.fault(4, "hill a 1 1; news b at a; sleeper @b b 1;");
        Check.fault(4, "hill a 1 1; news b at a; sleeper a @a 1;");
        Check.fault(4, "hill a 1 1; sleeper a @b 1; news b at a;");
        Check.fine("hill a 0 99; news b at a; sleeper a b 9; sleeper a b 1;");
        Check.fault(5, "hill a @100 1;");
        Check.fault(5, "hill a 99 @9999;");
        Check.fault(5, "wind 99 @100;");
        Check.fault(5, "fog @1000 5;");
        Check.fault(5, "hill a 0 99; news b at a; sleeper a b @0;");
        Check.fault(5, "hill a 0 99; news b at a; sleeper a b @10;");
        Check.fault(5, "hill a @100 1; hill a 1 1; news b at c;");
        Check.fault(3, "hill a 1 1; hill @a 100 1;");
        Check.fault(4, "hill a 1 1; news b at @c; hill a 1 1;");
        Check.fault(3, "hill a 1 1; news @a at c;");
        Check.fault(1, "hill a 100 1; hill a 1 1; hill@");
        Check.fault(2, "hill a 100 1; wind 1 2 3 4 5 6 7 8 9 10 11 12 @13;");
    }

    private static void readChangesNothing() {
        HillDrums x = Check.told("hill a 1 1; hill b 2 2; news n at a; order any; wind 1 2 3; fog 4; sleeper a n 2;");
        x.drum(0, 0, false);
        x.hold(1);
        x.tell(1, 0, 0);
        Check.due("read of a wrong one", Check.read(x, "hill c 1 1; order free; wind 1; hill"), 1);
        Check.due("place", x.place(), 36);
        int[] counts = {2, 1, 0, 1, 1, 2, 1, 3, 1, 0, 1, 1, 1, 2};
        for (int what = 0; what < counts.length; what++) {
            Check.due("count " + what + " behind a wrong text", x.count(what), counts[what]);
        }
        Check.due("read of a right one", Check.read(x, "hill c 1 1; news m at c;"), 0);
        Check.due("place", x.place(), Check.NONE);
        int[] then = {1, 1, 0, 0, 0, 1, 0, 0, 0, 0, 0, 0, 0, 1};
        for (int what = 0; what < then.length; what++) {
            Check.due("count " + what + " behind a right text", x.count(what), then[what]);
        }
        Check.due("undo", x.undo(), false);
        Check.due("restore", x.restore(1), false);
        Check.due("drummed", x.drummed(0, 0), Check.NONE);
        Check.due("night", x.night(), 1);
        Check.due("read of nothing", x.read(), 0);
        Check.due("hills of nothing", x.count(0), 0);
        Check.due("the day of nothing", x.count(2), 0);
    }

    private static void allIsNew() {
        HillDrums x = Check.land(4, "news n at a; news m at b; news o at c; order free; wind 9; fog 9; hears = 1; sleeper a n 1;");
        for (int news = 0; news < 3; news++) {
            x.drum(news, news, true);
        }
        x.night();
        for (int hill = 0; hill < 4; hill++) {
            x.drum(hill, 0, hill % 2 == 0);
        }
        Check.due("all clash", x.clashes(0), 15);
        Check.due("read", Check.read(x, "hill a 9 0; hill b 2 0; hill c 18 0; news n at c; news m at a; hears = 10 - far - wind - fog;"), 0);
        for (int news = 0; news < 2; news++) {
            Check.due("nobody clashes", x.clashes(news), 0);
            for (int hill = 0; hill < 3; hill++) {
                boolean home = hill == (news == 0 ? 2 : 0);
                Check.due("known", x.news(hill, news, 0), home ? 1 : 0);
                Check.due("since", x.news(hill, news, 1), home ? 0 : -2);
                Check.due("from", x.news(hill, news, 2), home ? hill : -2);
                Check.due("first", x.news(hill, news, 3), home ? 0 : -2);
                Check.due("may", x.may(hill, news, false), home ? 1 : -3);
            }
        }
        Check.due("pairs known", x.count(13), 2);
        Check.due("7 apart", x.hears(0, 1, 0), 1);
        Check.due("9 apart", x.hears(0, 2, 0), 1);
        Check.due("16 apart", x.hears(1, 2, 0), 0);
        Check.due("no sleeper", x.night(), 1);
        Check.due("drums", x.count(4), 0);
        Check.due("two hear", x.drum(0, 1, false), 2);
        Check.due("first said", x.news(1, 1, 3), 0);
        x.drum(0, 1, true);
        Check.due("two clash", x.clashes(1), 6);
        Check.due("a wrong meaning", Check.read(x, "hill a 1 1; hill a 2 2;"), 3);
        Check.due("a right one", Check.read(x, "hill a 0 0; hill b 9 0; hill c 0 10;"), 0);
        Check.due("place", x.place(), Check.NONE);
        Check.due("no news", x.count(1), 0);
        Check.due("known", x.count(13), 0);
        Check.due("by the law of no telling", x.hears(0, 1, 0), 1);
        Check.due("by the law of no telling", x.hears(0, 2, 0), 0);
    }

    private static void lastOnesHold() {
        HillDrums x = Check.told("order any; order free; wind 1 2; wind; fog 1; fog 5 6 7;");
        Check.due("order", x.count(5), 0);
        Check.due("wind", x.count(7), 0);
        Check.due("fog", x.count(8), 3);
        Check.due("order other", Check.read(x, "order other;"), 0);
        Check.due("order", x.count(5), 3);
        Check.due("order any", Check.read(x, "order any;"), 0);
        Check.due("order", x.count(5), 2);
        Check.due("no order", Check.read(x, "wind 1;"), 0);
        Check.due("order", x.count(5), 1);
        Check.due("fog", x.count(8), 0);
    }

    public static void main(String[] args) {
        newObject();
        tape();
        bytesInOrder();
        syntax();
        room();
        names();
        tokens();
        meaning();
        readChangesNothing();
        allIsNew();
        lastOnesHold();
        Check.end();
    }
}

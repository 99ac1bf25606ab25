import java.util.function.IntPredicate;

/** Promises 1 to 5 at each limit that the document names: just below it, at it, just above it. */
public final class TextEdgeTest {
    private static final int NONE = Check.NONE;
    private static final String LAND = "hill a 1 1;news n at a;";

    private TextEdgeTest() {
    }

    private static String hills(int many) {
        StringBuilder text = new StringBuilder();
        for (int i = 0; i < many; i++) {
            text.append("hill ").append((char) ('a' + i)).append(" 1 1;");
        }
        return text.toString();
    }

    private static String newses(int many) {
        StringBuilder text = new StringBuilder("hill a 1 1;");
        for (int i = 0; i < many; i++) {
            text.append("news n").append((char) ('a' + i)).append(" at a;");
        }
        return text.toString();
    }

    private static void newObject() {
        HillDrums x = new HillDrums();
        int[] answers = {x.read(), x.hears(0, 0, 0), x.news(0, 0, 0), x.drum(0, 0, false), x.may(0, 0, false), x.drummed(0, 0),
            x.byRule(0, 0), x.agreed(0, 1, 0, 0), x.bestOrder(0, 0), x.quiet(0, 0, 0), x.soonest(0, 0), x.all(0), x.drums(0),
            x.loophole(0, 1, 0), x.loopholeAt(0, 1, 0, 0), x.clashes(0), x.tell(0, 0, 0), x.beginners(0, 0), x.place(), x.back(1)};
        for (int i = 0; i < answers.length; i++) {
            Check.due("a new one's answer " + i, answers[i], i == 0 ? 0 : NONE);
        }
        x = new HillDrums();
        Check.due("forget of a new one", x.forget(), 0);
        Check.due("feed of a new one", x.feed(0, 0, 0, 0, 0), 20);
        Check.due("run 0 of a new one", x.run(0), 0);
        Check.due("nothing can be undone", x.undo(), false);
        Check.due("restore of a new one", x.restore(0) || x.restore(1) || x.restore(2), false);
        Check.due("hold of a new one", x.hold(0), true);
        Check.due("restore then", x.restore(0), true);
        Check.due("sure of a new one", x.sure(0, 1, 1, 1), 1);
        Check.due("talk of a new one", x.talk(1), 0);
        Check.due("night of a new one", x.night(), 1);
        Check.due("by topic", x.count(5), 1);
    }

    private static HillDrums full(int bytes) {
        HillDrums x = new HillDrums();
        for (int i = 0; i < bytes; i += 20) {
            x.feed(0x20202020, 0x20202020, 0x20202020, 0x20202020, 0x20202020);
        }
        x.back((20 - bytes % 20) % 20);
        Check.due("bytes", x.count(9), bytes);
        return x;
    }

    private static void tapeOf2000() {
        for (int bytes = 1960; bytes <= 2000; bytes++) {
            HillDrums x = full(bytes);
            boolean room = bytes <= 1980;
            Check.due("feed behind " + bytes, x.feed(0x3b202020, 0x20202020, 0x20202020, 0x20202020, 0x20202020), room ? bytes + 20 : NONE);
            Check.due("bytes behind " + bytes, x.count(9), room ? bytes + 20 : bytes);
            Check.due("what came, or nothing", x.read(), room ? 1 : 0);
            Check.due("where it came", x.place(), room ? bytes : NONE);
        }
        for (int n : new int[] {0, 1, 19, 20}) {
            HillDrums x = full(20);
            Check.due("back " + n, x.back(n), 20 - n);
            Check.due("bytes", x.count(9), 20 - n);
        }
        for (int n : new int[] {21, -1, Integer.MAX_VALUE, Integer.MIN_VALUE}) {
            HillDrums x = full(20);
            Check.due("back " + n, x.back(n), NONE);
            Check.due("nothing goes", x.count(9), 20);
        }
        HillDrums x = full(2000);
        Check.due("back of all", x.back(2000), 0);
        Check.due("back of none of none", x.back(0), 0);
        Check.due("back of one of none", x.back(1), NONE);
    }

    /** A text of 2,000 bytes: its last byte counts, and its end is at 2000. */
    private static void textOf2000() {
        String blanks = " ".repeat(2000);
        Check.fine(blanks.substring(11) + "hill a 1 2;");
        Check.fault(1, blanks.substring(10) + "hill a 1 2@");
        Check.fault(1, blanks.substring(11) + "hill a 1 2@.");
        Check.fault(1, "hill" + blanks.substring(4) + "@");
        Check.fault(1, blanks.substring(1) + "@;");
        Check.fault(5, blanks.substring(13) + "hill a 1 @100;");
        HillDrums x = Check.told(blanks.substring(27) + "hill a 1 1;hears=1;wind 12;");
        Check.due("the last number", x.count(7), 1);
    }

    private static void twentyBytes() {
        for (int at = 0; at < 20; at++) {
            for (int high : new int[] {0x3b, 0xff, 0x80}) {
                int[] w = {0x20202020, 0x20202020, 0x20202020, 0x20202020, 0x20202020};
                int shift = 24 - at % 4 * 8;
                w[at / 4] = w[at / 4] & ~(255 << shift) | high << shift;
                HillDrums x = new HillDrums();
                Check.due("feed", x.feed(w[0], w[1], w[2], w[3], w[4]), 20);
                Check.due("read of the byte " + at, x.read(), 1);
                Check.due("place of the byte " + at, x.place(), at);
                x.feed(w[0], w[1], w[2], w[3], w[4]);
                x.back(20 - at);
                Check.due("read without it", x.read(), 0);
            }
        }
    }

    private static void byteWithin(String ahead, int b, String behind, int fault, int place) {
        String text = ahead + (char) b + behind;
        HillDrums x = new HillDrums();
        Check.due("read with the byte " + b + " in " + text, Check.read(x, text), fault);
        Check.due("place with the byte " + b + " in " + text, x.place(), place);
    }

    /** Each byte there is, between numbers, between letters, alone: a blank, a letter, a digit, a SIGN or no TOKEN. */
    private static void everyByte() {
        IntPredicate blank = b -> b == 9 || b == 10 || b == 13 || b == 32;
        IntPredicate letter = b -> b >= 97 && b <= 122;
        IntPredicate digit = b -> b >= 48 && b <= 57;
        for (int b = 0; b < 256; b++) {
            boolean fits = blank.test(b);
            byteWithin("wind 1", b, "2;", fits ? 0 : digit.test(b) ? 5 : 1, fits ? NONE : digit.test(b) ? 5 : b == ';' ? 7 : 6);
            fits = letter.test(b);
            byteWithin("hill a", b, "b 1 2;", fits ? 0 : 1, fits ? NONE : blank.test(b) || digit.test(b) ? 7 : 6);
            byteWithin("", b, "", blank.test(b) ? 0 : 1, blank.test(b) ? NONE : 0);
            fits = "+-*/".indexOf(b) >= 0;
            boolean number = blank.test(b) || digit.test(b);
            byteWithin("hears=7", b, ";", fits || b == ';' || !number ? 1 : 0, fits || b == ';' ? 8 : number ? NONE : 7);
            byteWithin("hears=8", b, "9;", fits || digit.test(b) ? 0 : 1, fits || digit.test(b) ? NONE : blank.test(b) || b == ';' ? 8 : 7);
        }
    }

    /** Each TOKEN, and what is none, behind this much of a text: the text goes on (to its end, or is one), or that is its FAULT. */
    private static void goesOn(String ahead, String fitting) {
        String all = String.join(" ", ModelText.WORDS) + " ; = + - * / < ( ) q abcdefgh 0 7 9999 > . abcdefghi 12345 Q \u0000";
        for (String token : all.split(" ")) {
            boolean fits = (" " + fitting + " ").contains(" " + token + " ");
            String text = ahead + " " + token;
            HillDrums x = new HillDrums();
            int fault = Check.read(x, text);
            int end = fault == 0 ? NONE : text.length();
            Check.due("read of " + text, fault == 1 || fits && fault == 0, true);
            Check.due("place in " + text, x.place(), fits ? end : ahead.length() + 1);
        }
    }

    private static void everyToken() {
        String tells = "hill news hears wind fog order sleeper";
        String ints = "0 7 9999";
        String unit = ints + " far wind fog day from to (";
        String names = "q abcdefgh";
        for (String ahead : new String[] {"", "hill a 1 1;", LAND, "wind;", "fog 1 2;", "order any;", "hears=1;", LAND + "sleeper a n 1;"}) {
            goesOn(ahead, tells);
        }
        goesOn("hill", names);
        goesOn("hill a", ints);
        goesOn("hill a 1", ints);
        goesOn("hill a 1 1", ";");
        goesOn("news", names);
        goesOn("news n", "at");
        goesOn("news n at", names);
        goesOn(LAND + "news m at a", ";");
        goesOn("hears", "=");
        goesOn("hears=", "if " + unit);
        goesOn("hears=if", unit);
        goesOn("hears=if 1", "+ - * / <");
        goesOn("hears=if 1<", unit);
        goesOn("hears=if 1<2", "+ - * / then");
        goesOn("hears=if 1<2 then", unit);
        goesOn("hears=if 1<2 then 3", "+ - * / else");
        goesOn("hears=if 1<2 then 3 else", "if " + unit);
        goesOn("hears=1", "+ - * / ;");
        goesOn("hears=far", "+ - * / ;");
        goesOn("hears=(1)", "+ - * / ;");
        for (String sign : new String[] {"+", "-", "*", "/"}) {
            goesOn("hears=1" + sign, unit);
            goesOn("hears=(1" + sign, unit);
        }
        goesOn("hears=(", unit);
        goesOn("hears=(1", "+ - * / )");
        goesOn("hears=if (1", "+ - * / )");
        goesOn("wind", ints + " ;");
        goesOn("wind 1 2", ints + " ;");
        goesOn("fog", ints + " ;");
        goesOn("fog 1 2", ints + " ;");
        goesOn("order", "free topic any other");
        goesOn("order free", ";");
        goesOn("sleeper", names);
        goesOn("sleeper a", names);
        goesOn("sleeper a n", ints);
        goesOn(LAND + "sleeper a n 1", ";");
    }

    private static void longestTokens() {
        Check.fine("hill a 1 1;hill hh 1 1;hill hillhill 1 1;");
        Check.fault(1, "@hillhill a 1 1;");
        Check.fault(1, "@hillhillh a 1 1;");
        Check.fault(1, "hill @hillhillh 1 1;");
        Check.fine("hears=if1<2then3else4;");
        Check.fine("hears=if(far)<day/2then from else(to)+1;");
        Check.fault(1, "hears=@iffar<2then 3else 4;");
        Check.fault(1, "hears=if far<2 @thento else 4;");
        Check.fault(1, "hears=@farwind;");
        Check.fault(1, "hears=@fa;");
        Check.fine("order free;order any;");
        Check.fault(1, "order @freeany;");
        Check.fault(1, "order @freetopic;");
        Check.fine("wind 0;wind 00;wind 000;wind 0000;");
        Check.fault(1, "wind @00000;");
        Check.fault(1, "wind 1 @000000000000000000000000000000;");
        Check.fine("wind 0099 0001;fog 007;");
        Check.fine("hill abcdefgh 1 1;hill abcdefg 1 1;hill z 1 1;news bcdefgh at abcdefgh;");
        Check.fault(1, "hill @abcdefghi 1 1;");
        Check.fault(1, "hill @abcdefghijklmnopqrstuvwxyz 1 1;");
        Check.fault(1, "hill a@");
        Check.fault(1, "hill @");
        Check.fault(1, "@hil");
        HillDrums x = Check.land(3, "hears=0010-far;");
        Check.due("far 5 of 0010", x.hears(0, 1, 0), 1);
        Check.due("far 10 of 0010", x.hears(0, 2, 0), 0);
        Check.due("9999", Check.read(x, "hill a 0 0;hill b 0 0;hears=9999-day;"), 0);
        Check.due("9998", x.hears(0, 1, 9998), 1);
        Check.due("9999", x.hears(0, 1, 9999), 0);
    }

    private static void manyThings() {
        for (int many = 0; many <= 6; many++) {
            Check.due("hills", Check.told(hills(many)).count(0), many);
        }
        Check.fault(2, hills(6) + "@" + hills(1));
        Check.fault(2, hills(6) + " @hill");
        Check.fault(2, hills(6) + "wind;@hill h 1 1;hill i 1 1;");
        for (int many = 0; many <= 4; many++) {
            Check.due("newses", Check.told(newses(many)).count(1), many);
            Check.due("sleepers", Check.told(newses(1) + "sleeper a na 1;".repeat(many)).count(6), many);
        }
        Check.fault(2, newses(4) + "@news nf at a;");
        Check.fault(2, newses(4) + "@news na at z;");
        Check.fault(2, newses(1) + "sleeper a na 1;".repeat(4) + "@sleeper a na 1;");
        Check.fault(2, newses(1) + "sleeper a na 1;".repeat(4) + "@sleeper z z 0;");
        for (int many = 0; many <= 12; many++) {
            HillDrums x = Check.told("wind" + " 99".repeat(many) + ";fog" + " 0".repeat(12 - many) + ";");
            Check.due("winds", x.count(7), many);
            Check.due("fogs", x.count(8), 12 - many);
        }
        Check.fault(2, "wind" + " 1".repeat(12) + " @1;");
        Check.fault(2, "fog" + " 1".repeat(12) + " @1;");
        Check.fault(2, "wind" + " 1".repeat(12) + " @999 1 1;");
        Check.fine(("wind" + " 1".repeat(12) + ";").repeat(3) + "fog 1;");
        HillDrums x = Check.told("wind" + " 1".repeat(12) + ";wind 1 2 3;wind;wind 5 6;fog 1;fog;");
        Check.due("the last row of winds", x.count(7), 2);
        Check.due("the last row of fogs", x.count(8), 0);
    }

    private static void ifsAndBrackets() {
        String oneIf = "if 1<2 then 3 else ";
        for (int ifs = 0; ifs <= 4; ifs++) {
            Check.fine("hears=" + oneIf.repeat(ifs) + "4;");
            Check.fine("hears=" + oneIf.repeat(4) + "4;hears=" + oneIf.repeat(ifs) + "4;");
        }
        Check.fault(2, "hears=" + oneIf.repeat(4) + "@if 1<2 then 3 else 4;");
        Check.fault(2, "hears=" + oneIf.repeat(4) + "@if then;");
        Check.fault(2, "hears=1;hears=" + oneIf.repeat(4) + "@if 1<2 then 3 else 4;");
        for (int depth = 0; depth <= 6; depth++) {
            String in = "(".repeat(depth) + "1" + ")".repeat(depth);
            Check.fine("hears=" + in + ";");
            Check.fine("hears=" + in + "+" + in + "*" + in + ";");
            Check.fine("hears=if " + in + "<" + in + " then " + in + " else " + in + ";");
        }
        Check.fault(2, "hears=((((((@(1)))))));");
        Check.fault(2, "hears=((((((1))))))+((((((@(1)))))));");
        Check.fault(2, "hears=((((((1+@(1)))))));");
        Check.fault(2, "hears=if ((((((1))))))<((((((@(1))))))) then 1 else 1;");
        Check.fine("hears=(((((1+2)*(3-(4)))))+(5)/(6));");
        Check.fine("hears=((((((1))+(2))+(3))+(4))+(5))+(6);");
        Check.fault(1, "hears=((((((1@;");
        Check.fault(1, "hears=((((((1))))))@);");
    }

    private static void tokensOf400() {
        String two = "wind;";
        for (int tokens = 396; tokens <= 400; tokens += 2) {
            Check.fine(two.repeat(tokens / 2));
        }
        Check.fine(two.repeat(198) + "wind 1;");
        Check.fine(two.repeat(199) + "wind;   ");
        Check.fine(two.repeat(198) + "wind 1 2;");
        Check.fault(2, two.repeat(198) + "wind 1 2 3@;");
        Check.fault(2, two.repeat(199) + "wind 1@;");
        Check.fault(2, two.repeat(199) + "wind 1 @2;");
        Check.fault(2, two.repeat(200) + "@fog;");
        Check.fault(2, two.repeat(200) + "  @order");
        Check.fault(1, two.repeat(200) + "@;");
        Check.fault(1, two.repeat(200) + "@!");
        Check.fault(1, two.repeat(199) + "wind 1@.");
        Check.fault(1, two.repeat(199) + "wind 1 @");
        Check.fault(1, two.repeat(198) + "wind 1; @1");
        Check.fault(2, "hears=" + "1+".repeat(199) + "@1;");
        Check.fault(2, "hears=" + "1+".repeat(198) + "1+@1;");
        Check.fault(2, "hears=" + "1+".repeat(198) + "1*@1;");
        Check.fault(2, "hears=" + "1+".repeat(197) + "(1)*@1;");
        Check.fault(2, "hears=" + "1+".repeat(196) + "(1)+(1@);");
        Check.fault(2, "wind 1;hears=" + "1+".repeat(197) + "1@*1;");
        Check.fine("hears=" + "1+".repeat(198) + "1;");
        Check.fault(2, two.repeat(150) + "hears=" + "1+".repeat(48) + "1+@1;");
        // A seventh hill, a 13th number that are the 401st TOKEN, too: one FAULT at one place.
        Check.fault(2, hills(6) + two.repeat(185) + "@hill g 1 1;");
        Check.fault(2, two.repeat(193) + "wind" + " 1".repeat(12) + ";@wind;");
        Check.fault(2, two.repeat(193) + "wind" + " 1".repeat(12) + " @1;");
    }

    private static void numbers() {
        for (int n : new int[] {0, 1, 98, 99}) {
            Check.fine("hill a " + n + " 1;hill b 1 " + n + ";wind " + n + ";fog 1 " + n + ";");
        }
        for (int n : new int[] {100, 101, 999, 1000, 9999}) {
            Check.fault(5, "hill a @" + n + " 1;");
            Check.fault(5, "hill a 1 @" + n + ";");
            Check.fault(5, "wind @" + n + ";");
            Check.fault(5, "fog 1 @" + n + " 1;");
            Check.fault(5, "wind 1 1 1 1 1 1 1 1 1 1 1 @" + n + ";");
            Check.fine("hears=" + n + ";");
        }
        for (int n = 0; n <= 11; n++) {
            String text = LAND + "sleeper a n @" + n + ";";
            if (n >= 1 && n <= 9) {
                Check.fine(text.replace("@", ""));
            } else {
                Check.fault(5, text);
            }
        }
        Check.fault(5, LAND + "sleeper a n @9999;");
        Check.fine(LAND + "sleeper a n 0009;");
        Check.fault(5, LAND + "sleeper a n @0000;");
    }

    private static void namesToldAhead() {
        Check.fault(3, "hill a 1 1;hill @a 1 1;");
        Check.fault(3, LAND + "hill @n 1 1;");
        Check.fault(3, LAND + "news @a at a;");
        Check.fault(3, LAND + "news @n at a;");
        Check.fault(3, hills(5) + "hill @e 1 1;");
        Check.fault(3, hills(5) + "hill @a 1 1;");
        Check.fault(3, newses(3) + "news @nc at a;");
        Check.fault(3, newses(3) + "news @na at a;");
        Check.fault(4, "news n at @n;");
        Check.fault(4, "news n at @a;hill a 1 1;");
        Check.fault(4, LAND + "news m at @n;");
        Check.fault(4, LAND + "news m at @b;hill b 1 1;");
        Check.fault(4, LAND + "sleeper @n n 1;");
        Check.fault(4, LAND + "sleeper a @a 1;");
        Check.fault(4, LAND + "sleeper @b n 1;hill b 1 1;");
        Check.fault(4, LAND + "sleeper a @m 1;news m at a;");
        Check.fine(hills(6) + "news n at f;news m at a;sleeper f n 1;sleeper a m 1;sleeper f m 9;");
        Check.fine("hears=to;wind 1;order any;fog 3;" + LAND);
    }

    private static void whichFaultFirst() {
        // SYNTAX and ROOM by their places, ahead of the others wherever these are.
        Check.fault(1, "@hil a 1 1;" + hills(7));
        Check.fault(2, hills(6) + "@hill g 1 1; hil h 1 1;");
        Check.fault(2, hills(6) + "@hill 1 g 1;");
        Check.fault(1, "wind 1 1 1 1 1 1 1 1 1 1 1 1 @11111;");
        Check.fault(1, "hears=((((((1 @hill(1);");
        Check.fault(1, "wind 100 100;hill a 1 1;hill a 1 1;news n at z; @x");
        Check.fault(2, "wind 100;" + newses(1) + "sleeper z z 0;".repeat(4) + "@sleeper a na 1;");
        Check.fault(1, "wind 100@");
        Check.fault(2, "wind 100 1 1 1 1 1 1 1 1 1 1 1 @1;");
        // The others by their places, whatever their numbers.
        Check.fault(3, "hill a 1 1;hill @a 100 1;news n at z;");
        Check.fault(3, "hill a 1 1;hill @a 1 1;wind 100;");
        Check.fault(3, LAND + "news @n at z;");
        Check.fault(4, LAND + "news m at @z;news n at a;hill b 100 1;");
        Check.fault(4, LAND + "sleeper @z z 0;");
        Check.fault(4, LAND + "sleeper a @z 0;");
        Check.fault(5, LAND + "sleeper a n @0;sleeper z n 0;");
        Check.fault(5, "hill a @100 100;hill a 1 1;news n at z;");
        Check.fault(5, "hill a 1 @100;hill a 1 1;news n at z;");
        Check.fault(5, "wind @100;hill a 1 1;news a at z;");
        Check.fault(5, "wind 1 @100 1 100;");
        Check.fault(3, "hill a 1 1;news @a at a;wind 100;");
    }

    private static void placeOfTheLatest() {
        HillDrums x = new HillDrums();
        Check.due("read", Check.read(x, "  ;"), 1);
        Check.due("place", x.place(), 2);
        Check.feed(x, " ;");
        Check.due("place till the next read", x.place(), 2);
        x.back(2);
        Check.due("place till the next read", x.place(), 2);
        Check.due("read", Check.read(x, "hill"), 1);
        Check.due("place at the end", x.place(), 4);
        Check.due("read", Check.read(x, "wind 100;"), 5);
        Check.due("place", x.place(), 5);
        Check.due("read of nothing", x.read(), 0);
        Check.due("place without", x.place(), NONE);
        Check.due("the tape is empty", x.count(9), 0);
        Check.due("read", Check.read(x, ";"), 1);
        Check.due("place 0", x.place(), 0);
        Check.due("the tape is empty behind a FAULT, too", x.count(9), 0);
    }

    /** Whatever the FAULT, nothing but the tape is another then. */
    private static void faultsChangeNothing() {
        String[] texts = {"hill z 1 1;x", hills(7), "hill z 1 1;hill z 1 1;", "wind 1;order free;news n at z;", "fog 1 2 3 100;"};
        for (int fault = 1; fault <= 5; fault++) {
            HillDrums x = Seen.busy();
            HillDrums y = Seen.busy();
            x.back(x.count(9));
            Check.due("read of " + texts[fault - 1], Check.read(x, texts[fault - 1]), fault);
            y.back(y.count(9));
            Seen.sameToTheEnd("FAULT " + fault, x, y);
        }
        Seen.unchanged("back of too much", Seen::busy, x -> Check.due("back", x.back(38), NONE));
        Seen.unchanged("back below 0", Seen::busy, x -> Check.due("back", x.back(-1), NONE));
        Seen.unchanged("back 0", Seen::busy, x -> Check.due("back", x.back(0), 37));
    }

    private static void goodTextsChangeAll() {
        HillDrums x = Seen.busy();
        x.hold(0);
        x.hold(2);
        Check.due("read", x.read(), 0);
        int[] due = {1, 0, 0, 0, 0, 2, 0, 4, 0, 0, 0, 0, 0, 0};
        for (int what = 0; what < due.length; what++) {
            Check.due("count " + what, x.count(what), due[what]);
        }
        for (int slot = 0; slot < 3; slot++) {
            Check.due("restore", x.restore(slot), false);
        }
        Check.due("undo", x.undo(), false);
        Check.due("forget", x.forget(), 0);
        Check.due("read of nothing", x.read(), 0);
        int[] empty = {0, 0, 0, 0, 0, 1, 0, 0, 0, 0, 0, 0, 0, 0};
        for (int what = 0; what < empty.length; what++) {
            Check.due("count " + what + " of nothing", x.count(what), empty[what]);
        }
    }

    /** What was heard by the text ahead is no part of a CLASH. */
    private static void nothingWasHeard() {
        for (boolean denied : new boolean[] {false, true}) {
            HillDrums x = Check.land(2, "news n at a;");
            x.drum(0, 0, denied);
            Check.due("read", Check.read(x, "hill a 0 0; hill b 0 5; news n at a;"), 0);
            Check.due("b knows nothing", x.news(1, 0, 0), 0);
            Check.due("drum", x.drum(0, 0, !denied), 1);
            Check.due("no clash", x.clashes(0), 0);
            Check.due("first", x.news(1, 0, 3), denied ? 0 : 1);
            Check.due("drum", x.drum(0, 0, denied), 1);
            Check.due("now it is one", x.clashes(0), 2);
        }
    }

    /** Nothing that a text told is left two texts later, nor when it had a FAULT: as if the last text were the only one. */
    private static void earlierTexts() {
        String rich = "hill a 0 0; hill b 0 1; hill c 0 2; news n at a; news m at b; hears = if far < 2 then 9 else fog;"
            + "wind 1 2 3; fog 4 5; order free; sleeper a n 1; sleeper b n 1; sleeper b m 1; sleeper c m 2;";
        String plain = "hill a 0 0; hill b 0 9; hill c 0 18; news n at a; news m at b;";
        String[][] ahead = {{rich}, {rich, plain}, {rich, "", plain}, {rich + "x"}, {rich, plain, rich + "hill a 1 1;"}, {plain, rich + "("}};
        for (String[] texts : ahead) {
            HillDrums x = new HillDrums();
            for (String text : texts) {
                Check.read(x, text);
                x.run(3);
            }
            HillDrums y = Check.told(plain);
            Check.due("read of the last text", Check.read(x, plain), 0);
            String what = "behind " + texts.length + " texts";
            Check.due(what + ": a says n, b says m, nobody asleep drums", x.talk(1), 2);
            for (int day = 0; day < 3; day++) {
                Seen.same(what, x, y);
                Check.due(what + ": talk", x.talk(9), y.talk(9));
                Check.due(what + ": night", x.night(), y.night());
                Check.due(what + ": no drum by night", x.count(4), 0);
            }
            Check.due(what + ": run", x.run(4), y.run(4));
            Seen.sameToTheEnd(what, x, y);
        }
    }

    public static void main(String[] args) {
        newObject();
        tapeOf2000();
        textOf2000();
        twentyBytes();
        everyByte();
        everyToken();
        longestTokens();
        manyThings();
        ifsAndBrackets();
        tokensOf400();
        numbers();
        namesToldAhead();
        whichFaultFirst();
        placeOfTheLatest();
        faultsChangeNothing();
        goodTextsChangeAll();
        nothingWasHeard();
        earlierTexts();
        Check.end();
    }
}

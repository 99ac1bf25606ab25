import java.nio.charset.StandardCharsets;

/** What the tests share: answers that are due, and texts fed to a program. */
final class Check {
    static final int NONE = HillDrums.NONE;
    private static int asked = 0;
    private static int wrong = 0;

    private Check() {
    }

    static void due(String what, long got, long want) {
        asked++;
        if (got != want) {
            wrong++;
            System.out.println("  " + what + " answered " + got + ", due is " + want);
        }
    }

    static void due(String what, boolean got, boolean want) {
        due(what, got ? 1 : 0, want ? 1 : 0);
    }

    static boolean anyWrong() {
        return wrong > 0;
    }

    /** Ends the test: exit code 1 if an answer was not the one that is due. */
    static void end() {
        if (wrong > 0) {
            System.out.println("  " + wrong + " of " + asked + " answers are not as due");
            System.exit(1);
        }
        System.out.println("  " + asked + " answers are as due");
    }

    /** Puts the bytes behind the tape: twenty at a time, what is too many taken back. */
    static void feed(HillDrums x, byte[] bytes) {
        int length = x.count(9);
        for (int at = 0; at < bytes.length; at += 20) {
            int[] words = new int[5];
            for (int i = 0; i < 20; i++) {
                int b = at + i < bytes.length ? bytes[at + i] & 255 : ' ';
                words[i / 4] = words[i / 4] << 8 | b;
            }
            due("feed", x.feed(words[0], words[1], words[2], words[3], words[4]), length + at + 20);
        }
        int more = (20 - bytes.length % 20) % 20;
        due("back", x.back(more), length + bytes.length);
    }

    static void feed(HillDrums x, String text) {
        feed(x, text.getBytes(StandardCharsets.ISO_8859_1));
    }

    static int read(HillDrums x, String text) {
        feed(x, text);
        return x.read();
    }

    /** A program that has read a text without a FAULT. */
    static HillDrums told(String text) {
        HillDrums x = new HillDrums();
        due("read of " + text, read(x, text), 0);
        return x;
    }

    /** A text's FAULT, which stands at the @ (which is not fed), on a program of its own. */
    static void fault(int fault, String marked) {
        String text = marked.replace("@", "");
        HillDrums x = new HillDrums();
        due("read of " + text, read(x, text), fault);
        due("place in " + text, x.place(), marked.indexOf('@'));
    }

    /** The end of a law by which only these hear: "01 12": 1 hears 0, and 2 hears 1. */
    static String only(String pairs) {
        StringBuilder product = new StringBuilder("1");
        for (String pair : pairs.split(" ")) {
            product.append(" * (from * 10 + to - ").append(pair).append(")");
        }
        return "if " + product + " < 0 then 0 else if 0 < " + product + " then 0 else 1";
    }

    /** This many HILLS, a, b and so on, in a row: by the law of no telling each hears its neighbours alone. */
    static HillDrums land(int hills, String more) {
        StringBuilder text = new StringBuilder();
        for (int i = 0; i < hills; i++) {
            text.append("hill ").append((char) ('a' + i)).append(" 0 ").append(5 * i).append(";");
        }
        return told(text + more);
    }

    /** A text without a FAULT, on a program of its own. */
    static void fine(String text) {
        fault(0, text);
    }
}

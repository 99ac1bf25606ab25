import java.util.Random;

/** Texts by chance: mostly without a FAULT, on land small enough that HILLS hear one another now and then. */
final class Texts {
    private static final String[] VARS = {"far", "wind", "fog", "day", "from", "to"};
    private static final String[] LAWS = {
        "9 - far", "6 - far + wind / 10", "if from < to then 8 - far else 3 - far", "far", "1",
        "if far < wind then 1 else 0", "10 - far - fog", "day / (to - from)", "(day - day / 3 * 3) * (9 - far)",
        "if day - day / 2 * 2 < 1 then 8 - far else if to < 2 then 12 - far else 0", "5 / (day - 3) + 6 - far",
        "if day < 4 then 0 else 9 - far", "if (from - to) * (from - to) < 2 then wind - fog else 0",
        "day / 9 * (12 - far)", "if from < to then 3 - far else 9 - far", "20000 * 0 + 9999 * 9999 * (day + to) - from"};
    private static final String[] ODD = {"hill", "news", "at", "hears", "=", "if", "then", "else", "<", "wind", "fog",
        "order", "free", "topic", "any", "other", "sleeper", "far", "day", "from", "to", ";", "(", ")", "+", "-", "*",
        "/", "a", "b", "na", "nb", "abcdefgh", "abcdefghi", "0", "5", "9", "10", "99", "100", "0007", "12345", "A", "#",
        "\u00e9", "\u0000", "_", ">", "", " ", "\n", "\t", "\r", "\f"};

    private final Random chance;

    Texts(Random chance) {
        this.chance = chance;
    }

    private int below(int n) {
        return chance.nextInt(n);
    }

    private String sum(int depth) {
        StringBuilder b = new StringBuilder(unit(depth));
        for (int i = below(3); i > 0; i--) {
            b.append(' ').append("+-*/".charAt(below(4))).append(' ').append(unit(depth));
        }
        return b.toString();
    }

    private String unit(int depth) {
        int which = below(depth > 5 ? 4 : 6);
        if (which < 2) {
            return "" + below(below(4) == 0 ? 10000 : 12);
        }
        return which < 4 ? VARS[below(6)] : "(" + sum(depth + 1) + ")";
    }

    /** Who hears whom looks as if by chance, and may be other by the day. */
    private String mixedLaw() {
        String p = "(from * " + (1 + below(9)) + " + to * " + (1 + below(9)) + " + day * " + below(3) + " + far * " + below(2) + ")";
        int parts = 3 + below(5);
        String rest = "(" + p + " - " + p + " / " + parts + " * " + parts + ")";
        return rest + " - " + (parts - 2 - below(2));
    }

    private String law() {
        if (below(3) > 0) {
            return below(2) == 0 ? mixedLaw() : LAWS[below(LAWS.length)];
        }
        StringBuilder b = new StringBuilder();
        for (int i = below(4); i > 0; i--) {
            b.append("if ").append(sum(2)).append('<').append(sum(1)).append(" then ").append(sum(2)).append(" else ");
        }
        return b.append(sum(0)).toString();
    }

    private String row(String word, int most) {
        StringBuilder b = new StringBuilder(word);
        for (int i = below(5); i > 0; i--) {
            b.append(' ').append(below(most));
        }
        return b.append(";").toString();
    }

    /** A text without a FAULT. */
    String good() {
        StringBuilder b = new StringBuilder();
        int hills = 1 + below(6);
        int news = 1 + below(4);
        int wide = 1 + below(9);
        for (int i = 0; i < hills; i++) {
            b.append("hill ").append((char) ('a' + i)).append(' ').append(below(wide)).append(' ').append(below(wide)).append(";");
        }
        for (int i = 0; i < news; i++) {
            b.append("news n").append((char) ('a' + i)).append(" at ").append((char) ('a' + below(hills))).append(";\n");
        }
        for (int i = 1 + below(2); i > 0 && below(5) > 0; i--) {
            b.append("hears = ").append(law()).append(";");
        }
        b.append(below(2) == 0 ? row("wind", 30) : "").append(below(2) == 0 ? row("fog", 12) : "");
        for (int i = below(5) * below(2); i > 0; i--) {
            b.append("sleeper ").append((char) ('a' + below(hills))).append(" n").append((char) ('a' + below(news)));
            b.append(' ').append(1 + below(9)).append(" ;");
        }
        String[] orders = {"free", "topic", "any", "other"};
        return b.append(below(5) > 0 ? "order " + orders[below(4)] + ";" : "").toString();
    }

    /** A text in which one NAME or number stands in place of another. */
    String meant() {
        String[] parts = good().split("(?=[ ;])|(?<=[ ;])");
        String[] others = {"a", "b", "c", "na", "nb", "z", "0", "1", "9", "10", "99", "100", "9999"};
        for (int i = 1 + below(2); i > 0; i--) {
            String part = others[below(others.length)];
            boolean number = Character.isDigit(part.charAt(0));
            int at = below(parts.length);
            for (int j = 0; j < parts.length; j++) {
                int k = (at + j) % parts.length;
                if (parts[k].matches(number ? "[0-9]+" : "n?[a-f]")) {
                    parts[k] = part;
                    break;
                }
            }
        }
        return String.join("", parts);
    }

    /** A text in which something was put, cut out, told twice or ended too soon. */
    String odd() {
        String text = below(6) == 0 ? "" : good();
        for (int i = 1 + below(3); i > 0; i--) {
            int at = below(text.length() + 1);
            int to = Math.min(text.length(), at + below(4));
            String part = ODD[below(ODD.length)];
            switch (below(5)) {
                case 0 -> text = text.substring(0, at) + " " + part + " " + text.substring(at);
                case 1 -> text = text.substring(0, at) + part + text.substring(to);
                case 2 -> text = text + good();
                case 3 -> text = text.substring(0, at) + text.substring(to);
                default -> text = text.substring(0, at);
            }
        }
        return text.length() > 2000 ? text.substring(0, 2000) : text;
    }

    /** A text of words by chance, of which some go on for long. */
    String wild() {
        StringBuilder b = new StringBuilder(below(2) == 0 ? "hears = " : "");
        String part = ODD[below(ODD.length)];
        for (int i = below(600); i > 0 && b.length() < 1990; i--) {
            part = below(8) > 0 ? part : ODD[below(ODD.length)];
            b.append(part).append(' ');
        }
        return b.length() > 2000 ? b.substring(0, 2000) : b.toString();
    }
}

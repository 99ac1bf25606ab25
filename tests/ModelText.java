import java.nio.charset.StandardCharsets;
import java.util.ArrayList;
import java.util.List;
import java.util.Set;
import java.util.regex.Matcher;
import java.util.regex.Pattern;

/** A text of the document, read in the plainest way: TOKENS by a pattern, SYNTAX by ModelGrammar, the rest by lists. */
final class ModelText {
    static final Set<String> WORDS = Set.of("hill", "news", "at", "hears", "if", "then", "else", "wind", "fog", "order",
        "free", "topic", "any", "other", "sleeper", "far", "day", "from", "to");
    private static final Pattern TOKEN = Pattern.compile("[a-z]+|[0-9]+|[^ \t\n\r]", Pattern.DOTALL);

    final List<int[]> places = new ArrayList<>();
    final List<Integer> newsHomes = new ArrayList<>();
    final List<int[]> sleepers = new ArrayList<>();
    List<Integer> wind = new ArrayList<>();
    List<Integer> fog = new ArrayList<>();
    int order = 1;
    private List<String> law = List.of("10", "-", "far");

    private final List<String> tokens = new ArrayList<>();
    private final List<Integer> starts = new ArrayList<>();
    private final List<String> hillNames = new ArrayList<>();
    private final List<String> newsNames = new ArrayList<>();
    private int[] fault = {0, -1};

    /** The FAULT's number and place. */
    int[] read(byte[] tape) {
        Matcher m = TOKEN.matcher(new String(tape, StandardCharsets.ISO_8859_1));
        List<String> kinds = new ArrayList<>();
        while (m.find()) {
            tokens.add(m.group());
            starts.add(m.start());
            kinds.add(kind(m.group()));
        }
        starts.add(tape.length);
        int syntax = ModelGrammar.firstWrong(kinds);
        int room = firstWithoutRoom();
        if (syntax >= 0 && (room < 0 || starts.get(syntax) <= starts.get(room))) {
            return new int[] {1, starts.get(syntax)};
        }
        if (room >= 0) {
            return new int[] {2, starts.get(room)};
        }
        int begin = 0;
        for (int i = 0; i < tokens.size() && fault[0] == 0; i++) {
            if (tokens.get(i).equals(";")) {
                mean(begin, tokens.subList(begin, i));
                begin = i + 1;
            }
        }
        return fault;
    }

    static String kind(String token) {
        if (WORDS.contains(token)) {
            return token;
        }
        if (token.matches("[a-z]{1,8}")) {
            return "NAME";
        }
        if (token.matches("[0-9]{1,4}")) {
            return "INT";
        }
        return token.matches("[;=+*/<()-]") ? token : "none";
    }

    /** The first TOKEN for which there is no room; -1 if there is none (what follows a wrong one does not matter). */
    private int firstWithoutRoom() {
        int hills = 0;
        int news = 0;
        int sleepers = 0;
        int numbers = 0;
        int ifs = 0;
        int nested = 0;
        String tell = "";
        for (int i = 0; i < tokens.size(); i++) {
            String token = tokens.get(i);
            if (i == 0 || tokens.get(i - 1).equals(";")) {
                tell = token;
                hills += token.equals("hill") ? 1 : 0;
                news += token.equals("news") ? 1 : 0;
                sleepers += token.equals("sleeper") ? 1 : 0;
                numbers = 0;
                ifs = 0;
                nested = 0;
            }
            numbers += (tell.equals("wind") || tell.equals("fog")) && kind(token).equals("INT") ? 1 : 0;
            ifs += token.equals("if") ? 1 : 0;
            nested += token.equals("(") ? 1 : token.equals(")") ? -1 : 0;
            if (i >= 400 || hills > 6 || news > 4 || sleepers > 4 || numbers > 12 || ifs > 4 || nested > 6) {
                return i;
            }
        }
        return -1;
    }

    private void wrong(int number, int token) {
        if (fault[0] == 0) {
            fault = new int[] {number, starts.get(token)};
        }
    }

    private int number(int token, int least, int most) {
        int value = Integer.parseInt(tokens.get(token));
        if (value < least || value > most) {
            wrong(5, token);
        }
        return value;
    }

    private String newName(int token) {
        if (hillNames.contains(tokens.get(token)) || newsNames.contains(tokens.get(token))) {
            wrong(3, token);
        }
        return tokens.get(token);
    }

    private int named(int token, List<String> names) {
        int found = names.indexOf(tokens.get(token));
        if (found < 0) {
            wrong(4, token);
        }
        return found;
    }

    private void mean(int at, List<String> tell) {
        switch (tell.get(0)) {
            case "hill" -> {
                String name = newName(at + 1);
                places.add(new int[] {number(at + 2, 0, 99), number(at + 3, 0, 99)});
                hillNames.add(name);
            }
            case "news" -> {
                String name = newName(at + 1);
                newsHomes.add(named(at + 3, hillNames));
                newsNames.add(name);
            }
            case "wind" -> wind = row(at, tell.size());
            case "fog" -> fog = row(at, tell.size());
            case "order" -> order = List.of("free", "topic", "any", "other").indexOf(tell.get(1));
            case "sleeper" -> sleepers.add(
                new int[] {named(at + 1, hillNames), named(at + 2, newsNames), number(at + 3, 1, 9)});
            default -> law = new ArrayList<>(tell.subList(2, tell.size()));
        }
    }

    private List<Integer> row(int at, int size) {
        List<Integer> row = new ArrayList<>();
        for (int i = 1; i < size; i++) {
            row.add(number(at + i, 0, 99));
        }
        return row;
    }

    /** What HEARS tells of b hearing a. */
    int law(int a, int b, int day) {
        int[] from = places.get(a);
        int[] to = places.get(b);
        List<String> told = new ArrayList<>();
        for (String token : law) {
            told.add(switch (token) {
                case "far" -> "" + (Math.abs(from[0] - to[0]) + Math.abs(from[1] - to[1]));
                case "wind" -> "" + (wind.isEmpty() ? 0 : wind.get(day % wind.size()));
                case "fog" -> "" + (fog.isEmpty() ? 0 : fog.get(day % fog.size()));
                case "day" -> "" + day;
                case "from" -> "" + a;
                case "to" -> "" + b;
                default -> token;
            });
        }
        try {
            while (told.get(0).equals("if")) {
                int less = told.indexOf("<");
                int then = told.indexOf("then");
                int other = told.indexOf("else");
                if (sum(told.subList(1, less)) < sum(told.subList(less + 1, then))) {
                    return sum(told.subList(then + 1, other));
                }
                told = told.subList(other + 1, told.size());
            }
            return sum(told);
        } catch (ArithmeticException dividedByZero) {
            return 0;
        }
    }

    private static int lastOutside(List<String> e, String... signs) {
        int nested = 0;
        for (int i = e.size() - 1; i >= 0; i--) {
            nested += e.get(i).equals(")") ? 1 : e.get(i).equals("(") ? -1 : 0;
            if (nested == 0 && List.of(signs).contains(e.get(i))) {
                return i;
            }
        }
        return -1;
    }

    private static int sum(List<String> e) {
        int at = lastOutside(e, "+", "-");
        at = at >= 0 ? at : lastOutside(e, "*", "/");
        if (at >= 0) {
            int left = sum(e.subList(0, at));
            int right = sum(e.subList(at + 1, e.size()));
            return switch (e.get(at)) {
                case "+" -> left + right;
                case "-" -> left - right;
                case "*" -> left * right;
                default -> left / right;
            };
        }
        return e.get(0).equals("(") ? sum(e.subList(1, e.size() - 1)) : Integer.parseInt(e.get(0));
    }
}

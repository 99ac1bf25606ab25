import java.util.ArrayList;
import java.util.LinkedHashSet;
import java.util.List;
import java.util.Map;
import java.util.Set;

/** The text's grammar as the document writes it, and Earley's reader: it finds the first TOKEN with which no text goes on. */
final class ModelGrammar {
    private static final Map<String, List<String>> RULES = Map.of(
        "TEXT", List.of("", "TEXT TELL"),
        "TELL", List.of("hill NAME INT INT ;", "news NAME at NAME ;", "hears = IFS E ;", "wind INTS ;", "fog INTS ;",
            "order free ;", "order topic ;", "order any ;", "order other ;", "sleeper NAME NAME INT ;"),
        "IFS", List.of("", "IFS if E < E then E else"),
        "INTS", List.of("", "INTS INT"),
        "E", List.of("PART", "E + PART", "E - PART"),
        "PART", List.of("UNIT", "PART * UNIT", "PART / UNIT"),
        "UNIT", List.of("INT", "VAR", "( E )"),
        "VAR", List.of("far", "wind", "fog", "day", "from", "to"));

    private record Item(String head, List<String> body, int dot, int origin) {
        String next() {
            return dot < body.size() ? body.get(dot) : null;
        }

        Item moved() {
            return new Item(head, body, dot + 1, origin);
        }
    }

    private ModelGrammar() {
    }

    private static List<Item> items(String head, int origin) {
        List<Item> items = new ArrayList<>();
        for (String body : RULES.get(head)) {
            items.add(new Item(head, body.isEmpty() ? List.of() : List.of(body.split(" ")), 0, origin));
        }
        return items;
    }

    /** The TOKEN's number, how many there are if the text may not end yet, -1 if it is one. */
    static int firstWrong(List<String> kinds) {
        List<Set<Item>> sets = new ArrayList<>();
        Set<Item> set = new LinkedHashSet<>(items("TEXT", 0));
        for (int at = 0;; at++) {
            sets.add(set);
            close(sets, at);
            if (at == kinds.size()) {
                break;
            }
            Set<Item> next = new LinkedHashSet<>();
            for (Item item : set) {
                if (kinds.get(at).equals(item.next())) {
                    next.add(item.moved());
                }
            }
            if (next.isEmpty()) {
                return at;
            }
            set = next;
        }
        for (Item item : set) {
            if (item.head().equals("TEXT") && item.origin() == 0 && item.next() == null) {
                return -1;
            }
        }
        return kinds.size();
    }

    private static void close(List<Set<Item>> sets, int at) {
        Set<Item> set = sets.get(at);
        List<Item> open = new ArrayList<>(set);
        for (int i = 0; i < open.size(); i++) {
            Item item = open.get(i);
            List<Item> found = new ArrayList<>();
            if (item.next() == null) {
                for (Item waiting : new ArrayList<>(sets.get(item.origin()))) {
                    if (item.head().equals(waiting.next())) {
                        found.add(waiting.moved());
                    }
                }
            } else if (RULES.containsKey(item.next())) {
                found.addAll(items(item.next(), at));
                if (RULES.get(item.next()).contains("")) {
                    found.add(item.moved());
                }
            }
            for (Item more : found) {
                if (set.add(more)) {
                    open.add(more);
                }
            }
        }
    }
}

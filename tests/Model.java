import java.math.BigInteger;
import java.util.ArrayList;
import java.util.Arrays;
import java.util.HashMap;
import java.util.HashSet;
import java.util.List;
import java.util.Map;
import java.util.Set;
import java.util.TreeMap;
import java.util.TreeSet;

/**
 * The document once more, in the slowest and plainest way, with the Java library: what the program answers is compared
 * with it. It shares nothing with the program: sets and lists instead of bits, PLANS by trying every order of drummers,
 * LAWS by splitting their TOKENS at the last sign, FAULTS by a reader of any grammar (ModelFaults).
 */
final class Model {
    /** What can change by drums and nights. */
    static final class World {
        int day;
        int inAll;
        Map<Integer, int[]> known = new TreeMap<>();
        List<int[]> drums = new ArrayList<>();
        Set<Integer> heardSaid = new TreeSet<>();
        Set<Integer> heardDenied = new TreeSet<>();

        World copy() {
            World w = new World();
            w.day = day;
            w.inAll = inAll;
            w.known.putAll(known);
            w.drums.addAll(drums);
            w.heardSaid.addAll(heardSaid);
            w.heardDenied.addAll(heardDenied);
            return w;
        }

        boolean knows(int hill, int news) {
            return known.containsKey(10 * hill + news);
        }
    }

    byte[] tape = new byte[0];
    int place = -1;
    ModelText text = new ModelText();
    World now = new World();
    List<World> past = new ArrayList<>();
    World[] slots = new World[3];
    List<int[]> told = new ArrayList<>();
    private final Map<List<Integer>, Boolean> heard = new HashMap<>();

    int feed(int... words) {
        if (tape.length + 20 > 2000) {
            return -1;
        }
        byte[] longer = Arrays.copyOf(tape, tape.length + 20);
        for (int i = 0; i < 20; i++) {
            longer[tape.length + i] = (byte) (words[i / 4] >>> (8 * (3 - i % 4)));
        }
        tape = longer;
        return tape.length;
    }

    int back(int n) {
        if (n < 0 || n > tape.length) {
            return -1;
        }
        tape = Arrays.copyOf(tape, tape.length - n);
        return tape.length;
    }

    int read() {
        ModelText next = new ModelText();
        int[] fault = next.read(tape);
        tape = new byte[0];
        place = fault[1];
        if (fault[0] == 0) {
            text = next;
            now = beginning();
            past.clear();
            slots = new World[3];
            told.clear();
            heard.clear();
        }
        return fault[0];
    }

    World beginning() {
        World w = new World();
        for (int n = 0; n < text.newsHomes.size(); n++) {
            int home = text.newsHomes.get(n);
            w.known.put(10 * home + n, new int[] {0, home, 0});
        }
        return w;
    }

    int hills() {
        return text.places.size();
    }

    int newsCount() {
        return text.newsHomes.size();
    }

    boolean hill(int h) {
        return h >= 0 && h < hills();
    }

    boolean isNews(int n) {
        return n >= 0 && n < newsCount();
    }

    boolean listens(int b, int a, int day) {
        if (a == b) {
            return true;
        }
        return heard.computeIfAbsent(List.of(a, b, day), k -> text.law(a, b, day) > 0);
    }

    int hears(int a, int b, int day) {
        if (!hill(a) || !hill(b) || day < 0 || day > 9999) {
            return -1;
        }
        return listens(b, a, day) ? 1 : 0;
    }

    Set<Integer> others(int a, int day) {
        Set<Integer> set = new TreeSet<>();
        for (int b = 0; b < hills(); b++) {
            if (b != a && listens(b, a, day)) {
                set.add(b);
            }
        }
        return set;
    }

    boolean answer(World w, int order, int hill, int news, boolean denied) {
        for (int[] d : w.drums) {
            if (d[0] != hill && (d[3] >> hill & 1) == 1) {
                boolean counts;
                if (order == 0) {
                    counts = false;
                } else if (order == 1) {
                    counts = d[1] == news;
                } else if (order == 2) {
                    counts = true;
                } else {
                    counts = d[1] == news && (d[2] == 1) != denied;
                }
                if (counts) {
                    return true;
                }
            }
        }
        return false;
    }

    void learn(World w, int hill, int news, boolean denied) {
        w.inAll++;
        for (int b : others(hill, w.day)) {
            w.known.putIfAbsent(10 * b + news, new int[] {w.day, hill, denied ? 1 : 0});
            (denied ? w.heardDenied : w.heardSaid).add(10 * b + news);
        }
    }

    void strike(World w, int hill, int news, boolean denied) {
        int bits = 1 << hill;
        for (int b : others(hill, w.day)) {
            bits |= 1 << b;
        }
        w.drums.add(new int[] {hill, news, denied ? 1 : 0, bits});
        learn(w, hill, news, denied);
    }

    boolean can(World w, int order, int hill, int news, boolean denied) {
        return w.knows(hill, news) && w.drums.size() < 60 && !answer(w, order, hill, news, denied);
    }

    int may(int hill, int news, boolean denied) {
        if (!hill(hill) || !isNews(news)) {
            return -1;
        }
        if (!now.knows(hill, news) || now.drums.size() >= 60) {
            return -3;
        }
        return answer(now, text.order, hill, news, denied) ? 0 : 1;
    }

    void done() {
        past.add(now.copy());
        if (past.size() > 40) {
            past.remove(0);
        }
    }

    int drum(int hill, int news, boolean denied) {
        int may = may(hill, news, denied);
        if (may != 1) {
            return may == 0 ? -2 : may;
        }
        done();
        strike(now, hill, news, denied);
        return others(hill, now.day).size();
    }

    int drummed(int i, int what) {
        if (i < 0 || i >= now.drums.size() || what < 0 || what > 3) {
            return -1;
        }
        return now.drums.get(i)[what];
    }

    void dusk(World w, int silent) {
        for (int[] s : text.sleepers) {
            if (s[0] != silent && w.day % s[2] == 0 && w.knows(s[0], s[1])) {
                learn(w, s[0], s[1], false);
            }
        }
        w.day++;
        w.drums.clear();
    }

    void ruleDay(World w, int order, int silent) {
        for (int h = 0; h < hills(); h++) {
            for (int n = 0; n < newsCount(); n++) {
                if (h != silent && can(w, order, h, n, false)) {
                    strike(w, h, n, false);
                }
            }
        }
        dusk(w, silent);
    }

    int night() {
        done();
        dusk(now, -1);
        return now.day;
    }

    int run(int n) {
        if (n < 0 || n > 100) {
            return -1;
        }
        if (n > 0) {
            done();
        }
        for (int i = 0; i < n; i++) {
            ruleDay(now, text.order, -1);
        }
        return now.day;
    }

    boolean undo() {
        if (past.isEmpty()) {
            return false;
        }
        now = past.remove(past.size() - 1);
        return true;
    }

    int news(int h, int n, int what) {
        if (!hill(h) || !isNews(n) || what < 0 || what > 4) {
            return -1;
        }
        int[] k = now.known.get(10 * h + n);
        if (what == 0) {
            return k == null ? 0 : 1;
        }
        if (what == 4) {
            return clashes(n) >> h & 1;
        }
        return k == null ? -2 : k[what - 1];
    }

    int clashes(int n) {
        if (!isNews(n)) {
            return -1;
        }
        int bits = 0;
        for (int h = 0; h < hills(); h++) {
            if (now.heardSaid.contains(10 * h + n) && now.heardDenied.contains(10 * h + n)) {
                bits |= 1 << h;
            }
        }
        return bits;
    }

    int behind(int order, int silent, int... pairs) {
        World w = now.copy();
        for (int days = 0; days <= 200; days++) {
            boolean every = true;
            for (int pair : pairs) {
                every &= w.known.containsKey(pair);
            }
            if (every) {
                return days;
            }
            ruleDay(w, order, silent);
        }
        return -2;
    }

    int byRule(int n, int h) {
        return hill(h) && isNews(n) ? behind(text.order, -1, 10 * h + n) : -1;
    }

    int agreed(int a, int b, int n, int o) {
        if (!hill(a) || !hill(b) || a == b || !isNews(n) || !isNews(o)) {
            return -1;
        }
        return behind(text.order, -1, 10 * a + n, 10 * a + o, 10 * b + n, 10 * b + o);
    }

    int talk(int n) {
        if (n < 1 || n > 200) {
            return -1;
        }
        World w = now.copy();
        for (int i = 0; i < n; i++) {
            ruleDay(w, text.order, -1);
        }
        return w.inAll - now.inAll;
    }

    int bestOrder(int n, int what) {
        if (!isNews(n) || what < 0 || what > 1) {
            return -1;
        }
        int[] everybody = new int[hills()];
        for (int h = 0; h < hills(); h++) {
            everybody[h] = 10 * h + n;
        }
        int[] best = {-2, -2};
        for (int order = 3; order >= 0; order--) {
            int days = behind(order, -1, everybody);
            if (days >= 0 && (best[1] < 0 || days <= best[1])) {
                best = new int[] {order, days};
            }
        }
        return best[what];
    }

    int quiet(int n, int h, int what) {
        if (!isNews(n) || !hill(h) || what < 0 || what > 1 || now.knows(h, n)) {
            return -1;
        }
        int[] best = {-2, -2};
        for (int silent = hills() - 1; silent >= -1; silent--) {
            int days = behind(text.order, silent, 10 * h + n);
            if (days >= 0 && (best[1] < 0 || days <= best[1])) {
                best = new int[] {silent == -1 ? -2 : silent, days};
            }
        }
        return best[what];
    }

    /** Every set of HILLS that can drum on a day in some order, tried drummer by drummer. */
    private Set<Set<Integer>> drummers(Set<Integer> knowing, int day) {
        Set<Set<Integer>> found = new HashSet<>();
        found.add(Set.of());
        List<Set<Integer>> open = new ArrayList<>(found);
        while (!open.isEmpty()) {
            Set<Integer> done = open.remove(open.size() - 1);
            World w = new World();
            for (int h : done) {
                int bits = 0;
                for (int b : others(h, day)) {
                    bits |= 1 << b;
                }
                w.drums.add(new int[] {h, 0, 0, bits});
            }
            for (int h : knowing) {
                if (!done.contains(h) && !answer(w, text.order, h, 0, false)) {
                    Set<Integer> more = new TreeSet<>(done);
                    more.add(h);
                    if (found.add(more)) {
                        open.add(more);
                    }
                }
            }
        }
        return found;
    }

    private Set<Integer> knowing(int n) {
        Set<Integer> set = new TreeSet<>();
        for (int h = 0; h < hills(); h++) {
            if (now.knows(h, n)) {
                set.add(h);
            }
        }
        return set;
    }

    /** For each set of knowing HILLS that can be behind some days of PLANS: the fewest DRUMS for it. */
    private Map<Set<Integer>, Integer> nextDay(Map<Set<Integer>, Integer> today, int day) {
        Map<Set<Integer>, Integer> next = new HashMap<>();
        for (Map.Entry<Set<Integer>, Integer> e : today.entrySet()) {
            for (Set<Integer> set : drummers(e.getKey(), day)) {
                Set<Integer> then = new TreeSet<>(e.getKey());
                for (int h : set) {
                    then.addAll(others(h, day));
                }
                next.merge(then, e.getValue() + set.size(), Math::min);
            }
        }
        return next;
    }

    private int plan(int n, Set<Integer> wanted, boolean byDrums) {
        Map<Set<Integer>, Integer> sets = new HashMap<>();
        sets.put(knowing(n), 0);
        int fewest = -2;
        for (int days = 0; days <= 60; days++) {
            for (Map.Entry<Set<Integer>, Integer> e : sets.entrySet()) {
                if (e.getKey().containsAll(wanted)) {
                    if (!byDrums) {
                        return days;
                    }
                    fewest = fewest < 0 ? e.getValue() : Math.min(fewest, e.getValue());
                }
            }
            sets = nextDay(sets, now.day + days + 1);
        }
        return fewest;
    }

    private Set<Integer> everybody() {
        Set<Integer> set = new TreeSet<>();
        for (int h = 0; h < hills(); h++) {
            set.add(h);
        }
        return set;
    }

    int soonest(int n, int h) {
        return isNews(n) && hill(h) ? plan(n, Set.of(h), false) : -1;
    }

    int all(int n) {
        return isNews(n) ? plan(n, everybody(), false) : -1;
    }

    int drums(int n) {
        return isNews(n) ? plan(n, everybody(), true) : -1;
    }

    /** The first way, drum by drum, to go on from w with this many more drums; null if there is none. */
    private List<Integer> goOn(World w, int a, int b, int n, int more, boolean first) {
        for (int h = 0; h < hills(); h++) {
            for (int m = 0; m < newsCount(); m++) {
                for (int d = 0; d < 2; d++) {
                    boolean fits = !first || h == a && m == n && d == 0;
                    fits &= more > 1 || h == b && m == n && listens(a, b, w.day);
                    if (fits && can(w, text.order, h, m, d == 1)) {
                        World then = w.copy();
                        strike(then, h, m, d == 1);
                        List<Integer> rest = more == 1 ? new ArrayList<>() : goOn(then, a, b, n, more - 1, false);
                        if (rest != null) {
                            rest.add(0, 100 * h + 10 * m + d);
                            return rest;
                        }
                    }
                }
            }
        }
        return null;
    }

    int loopholeAt(int a, int b, int n, int i) {
        if (!hill(a) || !hill(b) || a == b || !isNews(n) || !now.knows(a, n) || i < -1) {
            return -1;
        }
        for (int drums = 1; drums <= 3; drums++) {
            List<Integer> way = goOn(now, a, b, n, drums, true);
            if (way != null) {
                if (i == -1) {
                    return way.size();
                }
                return i < way.size() ? way.get(i) : -1;
            }
        }
        return -2;
    }

    int loophole(int a, int b, int n) {
        return loopholeAt(a, b, n, -1);
    }

    static int sure(int a, int b, int p, int q) {
        if (b < 1 || b > 9 || q < 1 || q > 9 || a < 0 || a > b || p < 0 || p > q) {
            return -1;
        }
        for (int k = 1; k <= 18; k++) {
            BigInteger ways = BigInteger.valueOf(b).pow(k);
            BigInteger heard = ways.subtract(BigInteger.valueOf(a).pow(k));
            if (heard.multiply(BigInteger.valueOf(q)).compareTo(ways.multiply(BigInteger.valueOf(p))) >= 0) {
                return k;
            }
        }
        return -2;
    }

    int tell(int h, int n, int day) {
        if (!hill(h) || !isNews(n) || day < 0 || day > 99 || told.size() == 20) {
            return -1;
        }
        told.add(new int[] {h, n, day});
        return told.size() - 1;
    }

    int forget() {
        int size = told.size();
        told.clear();
        return size;
    }

    int beginners(int n, int k) {
        if (!isNews(n) || k < 0 || k > told.size()) {
            return -1;
        }
        int bits = 0;
        for (int h = 0; h < hills(); h++) {
            World w = beginning();
            w.known.remove(10 * text.newsHomes.get(n) + n);
            w.known.put(10 * h + n, new int[] {0, h, 0});
            for (int day = 0; day < 100; day++) {
                ruleDay(w, text.order, -1);
            }
            boolean so = true;
            for (int[] t : told.subList(0, k)) {
                int[] at = w.known.get(10 * t[0] + n);
                so &= t[1] != n || at != null && at[0] == t[2];
            }
            bits |= so ? 1 << h : 0;
        }
        return bits;
    }

    boolean hold(int slot) {
        if (slot < 0 || slot > 2) {
            return false;
        }
        slots[slot] = now.copy();
        return true;
    }

    boolean restore(int slot) {
        if (slot < 0 || slot > 2 || slots[slot] == null) {
            return false;
        }
        now = slots[slot].copy();
        past.clear();
        return true;
    }

    int count(int what) {
        int held = 0;
        for (World w : slots) {
            held += w == null ? 0 : 1;
        }
        int[] counts = {hills(), newsCount(), now.day, now.drums.size(), now.inAll, text.order, text.sleepers.size(),
            text.wind.size(), text.fog.size(), tape.length, past.size(), told.size(), held, now.known.size()};
        return what >= 0 && what < counts.length ? counts[what] : -1;
    }
}

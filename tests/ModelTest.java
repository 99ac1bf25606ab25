import java.nio.charset.StandardCharsets;
import java.util.Random;

/** Runs of calls by chance (the same ones each time), each answer compared with the model's. */
public final class ModelTest {
    private static final int RUNS = 700;
    private static final int MOST_CALLS = 512;
    private final HillDrums x = new HillDrums();
    private final Model model = new Model();
    private final Random chance;
    private final Texts texts;
    private int calls = 0;

    private ModelTest(long seed) {
        chance = new Random(seed);
        texts = new Texts(chance);
    }

    private int below(int n) {
        return chance.nextInt(n);
    }

    /** A number that is mostly one of the first n, now and then just outside, seldom far away. */
    private int near(int n) {
        int which = below(40);
        if (which == 0) {
            return -1;
        }
        if (which == 1) {
            return n;
        }
        if (which == 2) {
            return chance.nextInt();
        }
        return n > 0 ? below(n) : 0;
    }

    private int hill() {
        return near(model.hills());
    }

    private int someNews() {
        return near(model.newsCount());
    }

    private void due(String call, long got, long want) {
        calls++;
        Check.due(call, got, want);
        if (calls == MOST_CALLS) {
            throw new LastCall();
        }
    }

    /** Ends a run: behind an object's 512th call whatever it answers is right. */
    private static final class LastCall extends RuntimeException {
        private static final long serialVersionUID = 1;
    }

    private void due(String call, boolean got, boolean want) {
        due(call, got ? 1 : 0, want ? 1 : 0);
    }

    private void readText() {
        int which = below(10);
        String text = which < 7 ? texts.good() : which < 8 ? texts.meant() : which < 9 ? texts.odd() : texts.wild();
        byte[] bytes = text.getBytes(StandardCharsets.ISO_8859_1);
        for (int at = 0; at < bytes.length; at += 20) {
            int[] w = new int[5];
            for (int i = 0; i < 20; i++) {
                w[i / 4] = w[i / 4] << 8 | (at + i < bytes.length ? bytes[at + i] & 255 : ' ');
            }
            due("feed", x.feed(w[0], w[1], w[2], w[3], w[4]), model.feed(w));
        }
        int more = (20 - bytes.length % 20) % 20;
        due("back " + more, x.back(more), model.back(more));
        due("read of " + text, x.read(), model.read());
        due("place in " + text, x.place(), model.place);
    }

    private void askAll() {
        for (int what = -1; what < 15; what++) {
            due("count " + what, x.count(what), model.count(what));
        }
        for (int n = 0; n < model.newsCount(); n++) {
            due("clashes " + n, x.clashes(n), model.clashes(n));
            for (int h = 0; h < model.hills(); h++) {
                for (int what = 1; what < 4; what++) {
                    due("news " + h + " " + n + " " + what, x.news(h, n, what), model.news(h, n, what));
                }
            }
        }
        int drums = model.now.drums.size();
        for (int i = drums > 9 ? drums - 5 : -1; i <= drums; i++) {
            for (int what = -1; what < 5; what++) {
                due("drummed " + i + " " + what, x.drummed(i, what), model.drummed(i, what));
            }
        }
    }

    private void act() {
        int a = hill();
        int n = someNews();
        boolean denied = below(2) == 0;
        switch (below(13)) {
            case 0, 1, 2, 3, 4 -> due("drum " + a + " " + n, x.drum(a, n, denied), model.drum(a, n, denied));
            case 5, 6 -> due("night", x.night(), model.night());
            case 7 -> {
                int days = below(4) > 0 ? below(4) : near(101);
                due("run " + days, x.run(days), model.run(days));
            }
            case 8 -> due("undo", x.undo(), model.undo());
            case 9 -> {
                int slot = near(3);
                due("hold", x.hold(slot), model.hold(slot));
            }
            case 10 -> {
                int slot = near(3);
                due("restore", x.restore(slot), model.restore(slot));
            }
            case 11 -> drumForLong(a, n, denied);
            default -> {
                int day = below(3) > 0 ? below(6) : near(100);
                due("tell", x.tell(a, n, day), model.tell(a, n, day));
                if (below(15) == 0) {
                    due("forget", x.forget(), model.forget());
                }
            }
        }
    }

    private void drumForLong(int a, int n, boolean denied) {
        if (below(6) == 0) {
            for (int i = 50 + below(13); i > 0; i--) {
                due("drum " + a + " " + n, x.drum(a, n, denied), model.drum(a, n, denied));
            }
        }
    }

    private void askNow() {
        int a = hill();
        int b = hill();
        int n = someNews();
        boolean denied = below(2) == 0;
        int day = near(below(2) == 0 ? 10000 : 30);
        due("hears " + a + " " + b + " " + day, x.hears(a, b, day), model.hears(a, b, day));
        due("may " + a + " " + n, x.may(a, n, denied), model.may(a, n, denied));
        int what = near(5);
        due("news " + a + " " + n + " " + what, x.news(a, n, what), model.news(a, n, what));
    }

    private void askWhatWouldBe() {
        int a = hill();
        int b = hill();
        int n = someNews();
        int o = someNews();
        int what = near(2);
        int i = near(3);
        int days = near(201);
        int k = near(model.told.size() + 1);
        due("byRule " + n + " " + a, x.byRule(n, a), model.byRule(n, a));
        due("agreed", x.agreed(a, b, n, o), model.agreed(a, b, n, o));
        due("talk " + days, x.talk(days), model.talk(days));
        due("bestOrder " + n + " " + what, x.bestOrder(n, what), model.bestOrder(n, what));
        due("quiet " + n + " " + a + " " + what, x.quiet(n, a, what), model.quiet(n, a, what));
        due("soonest " + n + " " + a, x.soonest(n, a), model.soonest(n, a));
        due("all " + n, x.all(n), model.all(n));
        due("drums " + n, x.drums(n), model.drums(n));
        due("loophole " + a + " " + b + " " + n, x.loophole(a, b, n), model.loophole(a, b, n));
        int at = i < 0 ? -1 : model.loopholeAt(a, b, n, i);
        due("loopholeAt " + a + " " + b + " " + n + " " + i, x.loopholeAt(a, b, n, i), at);
        due("beginners " + n + " " + k, x.beginners(n, k), model.beginners(n, k));
    }

    /** Each question on a NEWS. */
    private void askEverything() {
        if (model.newsCount() > 0) {
            int n = below(model.newsCount());
            due("all " + n, x.all(n), model.all(n));
            due("drums " + n, x.drums(n), model.drums(n));
            due("bestOrder " + n + " 0", x.bestOrder(n, 0), model.bestOrder(n, 0));
            due("bestOrder " + n + " 1", x.bestOrder(n, 1), model.bestOrder(n, 1));
            due("beginners " + n, x.beginners(n, model.told.size()), model.beginners(n, model.told.size()));
            for (int a = 0; a < model.hills(); a++) {
                due("byRule " + n + " " + a, x.byRule(n, a), model.byRule(n, a));
                due("soonest " + n + " " + a, x.soonest(n, a), model.soonest(n, a));
                due("quiet " + n + " " + a + " 0", x.quiet(n, a, 0), model.quiet(n, a, 0));
                due("quiet " + n + " " + a + " 1", x.quiet(n, a, 1), model.quiet(n, a, 1));
                for (int b = 0; b < model.hills(); b++) {
                    due("loophole " + a + " " + b + " " + n, x.loophole(a, b, n), model.loophole(a, b, n));
                    for (int i = 0; i < 4; i++) {
                        String call = "loopholeAt " + a + " " + b + " " + n + " " + i;
                        due(call, x.loopholeAt(a, b, n, i), model.loopholeAt(a, b, n, i));
                    }
                }
            }
        }
    }

    private void go() {
        for (int texts = 0; texts < 2; texts++) {
            readText();
            for (int round = below(5); round >= 0; round--) {
                for (int acts = below(12); acts >= 0; acts--) {
                    act();
                }
                askNow();
                int which = below(12);
                if (which < 6) {
                    askWhatWouldBe();
                } else if (which == 6) {
                    askEverything();
                }
                askAll();
            }
        }
    }

    public static void main(String[] args) {
        int runs = args.length > 0 ? Integer.parseInt(args[0]) : RUNS;
        long from = args.length > 1 ? Long.parseLong(args[1]) : 1;
        for (long seed = from; seed < from + runs && !Check.anyWrong(); seed++) {
            ModelTest run = new ModelTest(seed);
            try {
                run.go();
            } catch (LastCall enough) {
                Check.due("calls of a run", run.calls, MOST_CALLS);
            }
            if (Check.anyWrong()) {
                System.out.println("  in the run of seed " + seed + ", behind " + run.calls + " calls");
            }
        }
        compareSure();
        Check.end();
    }

    private static void compareSure() {
        for (int b = -1; b <= 10; b++) {
            for (int a = -1; a <= b + 1; a++) {
                HillDrums any = new HillDrums();
                for (int q = -1; q <= 10; q++) {
                    for (int p = -1; p <= q + 1; p++) {
                        String call = "sure " + a + " " + b + " " + p + " " + q;
                        Check.due(call, any.sure(a, b, p, q), Model.sure(a, b, p, q));
                    }
                }
            }
        }
    }
}

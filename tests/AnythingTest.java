import java.nio.charset.StandardCharsets;
import java.util.Random;

/** Any arguments in any state: nothing is thrown, and what asks changes nothing (two programs, of which one is asked more). */
public final class AnythingTest {
    private static final int RUNS = 1000;
    private final Random chance;
    private final HillDrums x = new HillDrums();
    private final HillDrums asked = new HillDrums();

    private AnythingTest(long seed) {
        chance = new Random(seed);
    }

    private int any() {
        switch (chance.nextInt(12)) {
            case 0:
                return chance.nextInt();
            case 1:
                return Integer.MIN_VALUE + chance.nextInt(3);
            case 2:
                return Integer.MAX_VALUE - chance.nextInt(3);
            case 3:
                return chance.nextInt(300) - 30;
            default:
                return chance.nextInt(7);
        }
    }

    private void both(byte[] bytes) {
        Check.feed(x, bytes);
        Check.feed(asked, bytes);
        Check.due("read", asked.read(), x.read());
        Check.due("place", asked.place(), x.place());
    }

    private void act() {
        int a = any();
        int b = any();
        int c = any();
        boolean denied = chance.nextBoolean();
        switch (chance.nextInt(14)) {
            case 0 -> Check.due("feed", asked.feed(a, b, c, a, b), x.feed(a, b, c, a, b));
            case 1 -> Check.due("back", asked.back(a), x.back(a));
            case 2 -> Check.due("undo", asked.undo(), x.undo());
            case 3 -> Check.due("night", asked.night(), x.night());
            case 4 -> Check.due("run", asked.run(a), x.run(a));
            case 5 -> Check.due("tell", asked.tell(a, b, c), x.tell(a, b, c));
            case 6 -> Check.due("hold", asked.hold(a), x.hold(a));
            case 7 -> Check.due("restore", asked.restore(a), x.restore(a));
            case 8 -> Check.due("forget", chance.nextInt(9) == 0 ? asked.forget() - x.forget() : 0, 0);
            case 9 -> Check.due("read", chance.nextInt(9) == 0 ? asked.read() - x.read() : 0, 0);
            default -> Check.due("drum", asked.drum(a, b, denied), x.drum(a, b, denied));
        }
    }

    private void ask() {
        int a = any();
        int b = any();
        int c = any();
        int d = any();
        boolean denied = chance.nextBoolean();
        switch (chance.nextInt(20)) {
            case 0 -> asked.place();
            case 1 -> asked.hears(a, b, c);
            case 2 -> asked.news(a, b, c);
            case 3 -> asked.may(a, b, denied);
            case 4 -> asked.drummed(a, b);
            case 5 -> asked.byRule(a, b);
            case 6 -> asked.agreed(a, b, c, d);
            case 7 -> asked.talk(a);
            case 8 -> asked.bestOrder(a, b);
            case 9 -> asked.quiet(a, b, c);
            case 10 -> asked.soonest(a, b);
            case 11 -> asked.all(a);
            case 12 -> asked.drums(a);
            case 13 -> asked.loophole(a, b, c);
            case 14 -> asked.loopholeAt(a, b, c, d);
            case 15 -> asked.clashes(a);
            case 16 -> asked.sure(a, b, c, d);
            case 17 -> asked.beginners(a, b);
            case 18 -> asked.back(-1 - (a & 1000));
            default -> asked.count(a);
        }
    }

    private void compare() {
        for (int what = 0; what < 14; what++) {
            Check.due("count " + what, asked.count(what), x.count(what));
        }
        for (int hill = 0; hill < x.count(0); hill++) {
            for (int news = 0; news < x.count(1); news++) {
                for (int what = 0; what < 5; what++) {
                    Check.due("news", asked.news(hill, news, what), x.news(hill, news, what));
                }
                Check.due("may", asked.may(hill, news, true), x.may(hill, news, true));
            }
        }
        for (int i = 0; i < x.count(3); i++) {
            Check.due("drummed", asked.drummed(i, 3), x.drummed(i, 3));
        }
    }

    /** No more than 512 calls of one program: some 40 to feed, 180, some 50 of noise, some 220 to compare. */
    private void go() {
        if (chance.nextInt(8) > 0) {
            both(new Texts(chance).good().getBytes(StandardCharsets.ISO_8859_1));
        }
        for (int i = 0; i < 60; i++) {
            act();
            ask();
            ask();
        }
        if (chance.nextBoolean()) {
            byte[] noise = new byte[chance.nextInt(1000)];
            chance.nextBytes(noise);
            Check.due("whatever is on the tape", asked.read() - x.read(), 0);
            both(noise);
        }
        compare();
    }

    public static void main(String[] args) {
        for (long seed = 1; seed <= RUNS && !Check.anyWrong(); seed++) {
            new AnythingTest(seed).go();
        }
        Check.end();
    }
}

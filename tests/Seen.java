import java.util.function.Consumer;
import java.util.function.Supplier;

/** What can be seen of two programs, to show that a call on one of them changed nothing. */
final class Seen {
    private Seen() {
    }

    /** Asks both the same; changes neither. */
    static void same(String what, HillDrums x, HillDrums y) {
        for (int i = 0; i < 14; i++) {
            Check.due(what + ": count " + i, x.count(i), y.count(i));
        }
        for (int news = 0; news < x.count(1); news++) {
            Check.due(what + ": clashes", x.clashes(news), y.clashes(news));
            for (int hill = 0; hill < x.count(0); hill++) {
                for (int i = 0; i < 4; i++) {
                    Check.due(what + ": news " + i, x.news(hill, news, i), y.news(hill, news, i));
                }
                Check.due(what + ": may say", x.may(hill, news, false), y.may(hill, news, false));
                Check.due(what + ": may deny", x.may(hill, news, true), y.may(hill, news, true));
            }
        }
        int drums = x.count(3);
        for (int i = Math.max(0, drums - 3); i < drums; i++) {
            for (int j = 0; j < 4; j++) {
                Check.due(what + ": drummed", x.drummed(i, j), y.drummed(i, j));
            }
        }
    }

    private static void sameInShort(String what, HillDrums x, HillDrums y) {
        for (int i : new int[] {2, 3, 4, 10, 12, 13}) {
            Check.due(what + ": count " + i, x.count(i), y.count(i));
        }
    }

    /** As same, and who is TOLD to have known, what can be undone, what SLOTS hold and what is on the tape: uses both up. */
    static void sameToTheEnd(String what, HillDrums x, HillDrums y) {
        same(what, x, y);
        for (int k = 0; k <= x.count(11); k++) {
            Check.due(what + ": beginners", x.beginners(0, k), y.beginners(0, k));
        }
        for (int i = 0; i < 6; i++) {
            Check.due(what + ": undo", x.undo(), y.undo());
            sameInShort(what + ", undone", x, y);
        }
        for (int slot = 0; slot < 3; slot++) {
            Check.due(what + ": restore", x.restore(slot), y.restore(slot));
            sameInShort(what + ", restored", x, y);
        }
        Check.due(what + ": read", x.read(), y.read());
        Check.due(what + ": place", x.place(), y.place());
        for (int i = 0; i < 9; i++) {
            Check.due(what + ": count " + i, x.count(i), y.count(i));
        }
    }

    /** Two programs alike, on one of which that is done which must change nothing. */
    static void unchanged(String what, Supplier<HillDrums> maker, Consumer<HillDrums> refused) {
        HillDrums x = maker.get();
        HillDrums y = maker.get();
        refused.accept(x);
        sameToTheEnd(what, x, y);
    }

    /** A program in which each thing there is stands: DRUMS of the day, what can be undone, SLOTS, what is TOLD, a tape. */
    static HillDrums busy() {
        HillDrums x = Check.land(4, "news n at a; news m at c; wind 1 2 3; fog 4; sleeper c m 2; order topic;");
        x.drum(0, 0, true);
        x.night();
        x.drum(1, 0, false);
        x.hold(1);
        x.tell(1, 0, 0);
        x.tell(2, 0, 1);
        x.drum(1, 0, true);
        Check.feed(x, "hill e 1 1; wind 7 8 9 10; order any;");
        return x;
    }
}

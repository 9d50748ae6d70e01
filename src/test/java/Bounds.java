import java.util.List;
import java.util.function.Consumer;
import java.util.function.ObjIntConsumer;
import java.util.function.Supplier;

/** What the tests of single sentences share: objects to call, numbers just outside of limits, and refused calls. */
final class Bounds {
    static final char[] NO_LETTERS = {'`', 'q', 'A', 'P', ' ', (char) 0, (char) 255, (char) 0x161, (char) 0xFFFF};
    private static final List<Supplier<SmokeRelay>> SAMPLES =
            List.of(SmokeRelay::new, Bounds::village, Bounds::fullRow);

    interface PairCall {
        void on(SmokeRelay relay, int one, int other);
    }

    interface LetterCall {
        void on(SmokeRelay relay, char letter);
    }

    private Bounds() {
    }

    static int[] outside(int first, int last) {
        return new int[] {first - 1, last + 1, Integer.MIN_VALUE, Integer.MAX_VALUE};
    }

    /** Towers from the left to the right, all with the height 1 and the mood 0. */
    static SmokeRelay rowOf(int... positions) {
        SmokeRelay relay = new SmokeRelay();
        for (int position : positions) {
            relay.addTower(position, 1, 0);
        }
        return relay;
    }

    /**
     * Four towers, the last one alone behind a hill, and something of everything: eight changes, a refusal, an error
     * position, a failed command, an output, a text that is not whole, and a saved state.
     */
    static SmokeRelay village() {
        SmokeRelay relay = new SmokeRelay();
        relay.addTower(0, 2, 0);
        relay.addTower(6, 2, 3);
        relay.addTower(12, 2, 1);
        relay.addTower(20, 1, 0);
        relay.setGround(16, 9);
        relay.save();
        relay.setWind(-3);
        relay.send(1, 2, 'k');
        relay.send(0, 1, 'b');
        Check.fails("garbled", UnsupportedOperationException.class, () -> relay.send(1, 2, 'c'));
        Check.feedText(relay, "wind?");
        Check.fails("malformed", IllegalArgumentException.class, relay::execute);
        Check.feedText(relay, "wind 3;mood 9!1");
        Check.fails("failed", UnsupportedOperationException.class, relay::execute);
        relay.writePattern(9);
        Check.feedText(relay, "wind ");
        return relay;
    }

    /** Eight towers that all see each other, each with one letter in its log. */
    static SmokeRelay fullRow() {
        SmokeRelay relay = rowOf(0, 4, 8, 12, 16, 20, 24, 28);
        for (int tower = 0; tower < 8; tower++) {
            relay.send(tower == 0 ? 1 : 0, tower, 'a');
        }
        return relay;
    }

    /** Takes an object that has just been made, so that nothing is undone that the test does not see. */
    static void refused(String call, Supplier<SmokeRelay> sample, Class<? extends RuntimeException> kind,
            Consumer<SmokeRelay> made) {
        SmokeRelay relay = sample.get();
        Check.fails(call, kind, () -> made.accept(relay));
        Check.dueText("what is asked after " + call, Asked.of(relay), Asked.of(sample.get()));
    }

    static void refused(String call, Class<? extends RuntimeException> kind, Consumer<SmokeRelay> made) {
        refused(call, Bounds::village, kind, made);
    }

    /** On a row without towers, on one with some, and on a full one; the last tower itself is taken. */
    static void noSuchTower(String call, ObjIntConsumer<SmokeRelay> made) {
        for (Supplier<SmokeRelay> sample : SAMPLES) {
            int towers = sample.get().towerCount();
            for (int tower : outside(0, towers - 1)) {
                refused(call + " of tower " + tower + " of " + towers, sample, IndexOutOfBoundsException.class,
                        relay -> made.accept(relay, tower));
            }
        }
        for (int tower : new int[] {0, 7}) {
            taken(call + " of tower " + tower, () -> made.accept(fullRow(), tower));
        }
    }

    static void noSuchTowerForEither(String call, PairCall made) {
        noSuchTower(call + " as the one", (relay, tower) -> made.on(relay, tower, 1));
        noSuchTower(call + " as the other", (relay, tower) -> made.on(relay, 1, tower));
    }

    static void noSuchPosition(String call, ObjIntConsumer<SmokeRelay> made) {
        for (int position : outside(0, 31)) {
            refused(call + " of position " + position, IllegalArgumentException.class,
                    relay -> made.accept(relay, position));
        }
    }

    static void noSuchPattern(String call, ObjIntConsumer<SmokeRelay> made) {
        for (int pattern : outside(0, 255)) {
            refused(call + " of pattern " + pattern, IllegalArgumentException.class,
                    relay -> made.accept(relay, pattern));
        }
        taken(call + " of pattern 0", () -> made.accept(village(), 0));
        taken(call + " of pattern 255", () -> made.accept(village(), 255));
    }

    static void noSuchLetter(String call, LetterCall made) {
        for (char letter : NO_LETTERS) {
            refused(call + " of letter " + (int) letter, IllegalArgumentException.class,
                    relay -> made.on(relay, letter));
        }
        taken(call + " of letter a", () -> made.on(village(), 'a'));
        taken(call + " of letter p", () -> made.on(village(), 'p'));
    }

    static void taken(String call, Runnable made) {
        String got = "nothing";
        try {
            made.run();
        } catch (RuntimeException e) {
            got = e.getClass().getName();
        }
        Check.dueText(call + " throws", got, "nothing");
    }

    static boolean fails(Runnable made) {
        try {
            made.run();
            return false;
        } catch (RuntimeException e) {
            return true;
        }
    }
}

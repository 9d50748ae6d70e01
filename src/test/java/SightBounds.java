/** The boundary cases of promises 12 to 18: sight and watches. */
final class SightBounds {
    private static final String NO_TOWER = "Throws IndexOutOfBoundsException if there is no such tower";
    private static final String NO_POSITION = "Throws IllegalArgumentException if position is not from 0 to 31";

    private SightBounds() {
    }

    static void test() {
        Sentences.under("Promise 12");
        Sentences.holds("Returns true if they see each other, false if both are the same.",
                () -> dueSameTower(SmokeRelay::canSee));
        Sentences.holds(NO_TOWER + ", for either", () -> Bounds.noSuchTowerForEither("canSee", SmokeRelay::canSee));
        Sentences.under("Promise 13");
        Sentences.holds("Returns the same as canSee, but is computed from the steepest slope from the one eye to the"
                + " ground between them.", () -> dueSameTower(SmokeRelay::canSeeBySlopes));
        Sentences.holds(NO_TOWER + ", for either",
                () -> Bounds.noSuchTowerForEither("canSeeBySlopes", SmokeRelay::canSeeBySlopes));
        testPositions();
        testWatches();
    }

    private static void testPositions() {
        Sentences.under("Promise 14");
        Sentences.holds(NO_TOWER,
                () -> Bounds.noSuchTower("seesPosition", (relay, tower) -> relay.seesPosition(tower, 5)));
        Sentences.holds(NO_POSITION, () -> {
            Bounds.noSuchPosition("seesPosition", (relay, position) -> relay.seesPosition(1, position));
            Check.due("seesPosition(0, 0)", Bounds.rowOf(15).seesPosition(0, 0), true);
            Check.due("seesPosition(0, 31)", Bounds.rowOf(15).seesPosition(0, 31), true);
        });
        Sentences.under("Promise 15");
        Sentences.holds("Returns the number of positions.", SightBounds::fewestAndMostPositions);
        Sentences.holds(NO_TOWER, () -> Bounds.noSuchTower("seenPositions", SmokeRelay::seenPositions));
        Sentences.under("Promise 16");
        Sentences.holds("Returns the number of towers.", SightBounds::fewestAndMostWatchersOf);
        Sentences.holds(NO_POSITION, () -> Bounds.noSuchPosition("watchersOf", SmokeRelay::watchersOf));
    }

    private static void testWatches() {
        Sentences.under("Promise 17");
        Sentences.holds("Returns the number of towers, 0 without towers.",
                () -> dueWatches(SmokeRelay::fewestWatchers));
        Sentences.under("Promise 18");
        Sentences.holds("Returns the number of towers.", () -> dueWatches(SmokeRelay::fewestWatchersByRecursion));
    }

    interface PairQuestion {
        boolean of(SmokeRelay relay, int one, int other);
    }

    interface Question {
        int of(SmokeRelay relay);
    }

    private static void dueSameTower(PairQuestion sees) {
        for (int tower = 0; tower < 8; tower++) {
            Check.due("the same tower " + tower, sees.of(Bounds.fullRow(), tower, tower), false);
            Check.due("another tower", sees.of(Bounds.fullRow(), tower, 7 - tower), true);
        }
        Check.due("the only tower", sees.of(Bounds.rowOf(31), 0, 0), false);
    }

    private static void fewestAndMostPositions() {
        SmokeRelay relay = Bounds.rowOf(0, 31, 15);
        for (int tower = 0; tower < 3; tower++) {
            Check.due("all positions of tower " + tower, relay.seenPositions(tower), 32);
        }
        for (int position : new int[] {1, 14, 16, 30}) {
            relay.setGround(position, 9);
        }
        Check.due("its own position and the next one", relay.seenPositions(0), 2);
        Check.due("its own position and the one before", relay.seenPositions(1), 2);
        Check.due("its own position and both beside it", relay.seenPositions(2), 3);
    }

    private static void fewestAndMostWatchersOf() {
        for (int position : new int[] {0, 31}) {
            Check.due("watchers without towers", new SmokeRelay().watchersOf(position), 0);
            Check.due("watchers of a full row", Bounds.fullRow().watchersOf(position), 8);
        }
        SmokeRelay relay = Bounds.rowOf(10);
        relay.setGround(5, 9);
        Check.due("watchers of a hidden end", relay.watchersOf(0), 0);
        Check.due("watchers of the hill", relay.watchersOf(5), 1);
    }

    private static void dueWatches(Question fewest) {
        Check.due("without towers", fewest.of(new SmokeRelay()), 0);
        Check.due("with one tower", fewest.of(Bounds.rowOf(31)), 1);
        Check.due("with eight of which each sees all", fewest.of(Bounds.fullRow()), 1);
        SmokeRelay relay = Bounds.rowOf(1, 5, 9, 13, 17, 21, 25, 29);
        for (int position = 3; position < 30; position += 4) {
            relay.setGround(position, 9);
        }
        Check.due("with eight of which none can be spared", fewest.of(relay), 8);
        relay.undo();
        Check.due("with two that see the same", fewest.of(relay), 7);
        SmokeRelay low = Bounds.rowOf(5, 9);
        low.setGround(0, 9);
        low.setGround(7, 1);
        Check.due("where a hill without a tower would see all", fewest.of(low), 2);
        low.addTower(0, 1, 0);
        Check.due("where a tower on this hill sees all", fewest.of(low), 1);
        low.undo();
        Check.due("where this tower is undone", fewest.of(low), 2);
    }
}

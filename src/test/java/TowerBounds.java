import java.util.NoSuchElementException;

/** The boundary cases of promises 1 to 11: ground and towers. */
final class TowerBounds {
    private static final String NO_TOWER = "Throws IndexOutOfBoundsException if there is no such tower";
    private static final String NO_POSITION = "Throws IllegalArgumentException if position is not from 0 to 31";

    private TowerBounds() {
    }

    static void test() {
        Sentences.under("Promise 1");
        Sentences.holds("Creates a flat row without towers and without wind.", TowerBounds::newObject);
        testGround();
        testTowers();
        testOrder();
    }

    private static void testGround() {
        Sentences.under("Promise 2");
        Sentences.holds("Throws IllegalArgumentException if position is not from 0 to 31 or height is not from 0 to 9",
                TowerBounds::groundIsRefused);
        Sentences.under("Promise 5");
        Sentences.holds(NO_POSITION, () -> {
            Bounds.noSuchPosition("ground", SmokeRelay::ground);
            Bounds.taken("ground(0)", () -> new SmokeRelay().ground(0));
            Bounds.taken("ground(31)", () -> new SmokeRelay().ground(31));
        });
    }

    private static void testTowers() {
        Sentences.under("Promise 3");
        Sentences.holds("Throws IllegalArgumentException if position is not from 0 to 31, height is not from 1 to 9, or"
                + " mood is not from 0 to 3", TowerBounds::towerIsRefused);
        Sentences.holds("Throws IllegalStateException if there are 8 towers, or one stands there",
                TowerBounds::towerHasNoRoom);
        Sentences.under("Promise 4");
        Sentences.holds(NO_TOWER, () -> Bounds.noSuchTower("setMood", (relay, tower) -> relay.setMood(tower, 1)));
        Sentences.holds("Throws IllegalArgumentException if mood is not from 0 to 3", TowerBounds::moodIsRefused);
        Sentences.under("Promise 6");
        Sentences.holds("Returns the number of towers.", TowerBounds::numberOfTowers);
        Sentences.under("Promise 7");
        Sentences.holds(NO_TOWER, () -> Bounds.noSuchTower("positionOf", SmokeRelay::positionOf));
        Sentences.under("Promise 8");
        Sentences.holds(NO_TOWER, () -> Bounds.noSuchTower("eye", SmokeRelay::eye));
        Sentences.under("Promise 9");
        Sentences.holds(NO_TOWER, () -> Bounds.noSuchTower("mood", SmokeRelay::mood));
    }

    private static void testOrder() {
        Sentences.under("Promise 10");
        Sentences.holds(NO_POSITION, () -> Bounds.noSuchPosition("towerAt", SmokeRelay::towerAt));
        Sentences.holds("Throws NoSuchElementException if no tower stands there", TowerBounds::nobodyStandsThere);
        Sentences.under("Promise 11");
        Sentences.holds("Returns a tower in the order of eyes, the highest eye first; of several, the smallest index"
                + " first.", TowerBounds::equalEyes);
        Sentences.holds("rank: the rank, from 0", TowerBounds::firstAndLastRank);
        Sentences.holds("Throws NoSuchElementException if there is no such rank", TowerBounds::noSuchRank);
    }

    private static void newObject() {
        StringBuilder due = new StringBuilder("output .\nrefusal none none\nerror position none\nfailed command none");
        due.append("\nwind 0\nground ").append("0".repeat(32)).append("\nsent").append(" 0".repeat(16));
        due.append("\ninput 1 good up to 0\nundo 0\nsaved nothing");
        Check.dueText("all of a new object", Asked.of(new SmokeRelay()), due.toString());
        Check.dueText("all of a second one", Asked.of(new SmokeRelay()), due.toString());
        Check.due("towers", new SmokeRelay().towerCount(), 0);
    }

    private static void groundIsRefused() {
        Bounds.noSuchPosition("setGround", (relay, position) -> relay.setGround(position, 1));
        for (int height : Bounds.outside(0, 9)) {
            Bounds.refused("setGround to " + height, IllegalArgumentException.class,
                    relay -> relay.setGround(5, height));
        }
        SmokeRelay relay = new SmokeRelay();
        Check.due("setGround(0, 9)", relay.setGround(0, 9), 0);
        Check.due("setGround(0, 0)", relay.setGround(0, 0), 9);
        Check.due("setGround(31, 9)", relay.setGround(31, 9), 0);
        Check.due("ground(0)", relay.ground(0), 0);
        Check.due("ground(31)", relay.ground(31), 9);
    }

    private static void towerIsRefused() {
        Bounds.noSuchPosition("addTower", (relay, position) -> relay.addTower(position, 1, 0));
        for (int height : Bounds.outside(1, 9)) {
            Bounds.refused("addTower of height " + height, IllegalArgumentException.class,
                    relay -> relay.addTower(3, height, 0));
        }
        for (int mood : Bounds.outside(0, 3)) {
            Bounds.refused("addTower of mood " + mood, IllegalArgumentException.class,
                    relay -> relay.addTower(3, 1, mood));
        }
        SmokeRelay relay = new SmokeRelay();
        Check.due("the smallest of all", relay.addTower(0, 1, 0), 0);
        Check.due("the greatest of all", relay.addTower(31, 9, 3), 1);
        Check.due("eye of the smallest", relay.eye(0), 1);
        Check.due("eye of the greatest", relay.eye(1), 9);
        Check.due("mood of the greatest", relay.mood(1), 3);
    }

    private static void towerHasNoRoom() {
        Bounds.refused("a ninth tower", Bounds::fullRow, IllegalStateException.class, relay -> relay.addTower(1, 1, 0));
        Bounds.refused("a ninth one at a tower", Bounds::fullRow, IllegalStateException.class,
                relay -> relay.addTower(28, 1, 0));
        Bounds.refused("at the first tower", IllegalStateException.class, relay -> relay.addTower(0, 1, 0));
        Bounds.refused("at the last tower", IllegalStateException.class, relay -> relay.addTower(20, 9, 3));
        SmokeRelay relay = Bounds.rowOf(0, 1, 2, 3, 4, 5, 30);
        Check.due("the eighth tower", relay.addTower(31, 1, 0), 7);
        relay.undo();
        Check.due("where an undone one stood", relay.addTower(31, 1, 0), 7);
    }

    private static void moodIsRefused() {
        for (int mood : Bounds.outside(0, 3)) {
            Bounds.refused("setMood to " + mood, IllegalArgumentException.class, relay -> relay.setMood(1, mood));
        }
        SmokeRelay relay = Bounds.rowOf(4);
        Check.due("setMood(0, 3)", relay.setMood(0, 3), 0);
        Check.due("setMood(0, 0)", relay.setMood(0, 0), 3);
        Check.due("mood(0)", relay.mood(0), 0);
    }

    private static void numberOfTowers() {
        SmokeRelay relay = new SmokeRelay();
        for (int towers = 0; towers < 8; towers++) {
            Check.due("towers", relay.towerCount(), towers);
            relay.addTower(31 - towers, 1, 0);
        }
        Check.due("towers of a full row", relay.towerCount(), 8);
    }

    private static void nobodyStandsThere() {
        for (int position : new int[] {0, 31}) {
            Bounds.refused("towerAt without towers", SmokeRelay::new, NoSuchElementException.class,
                    relay -> relay.towerAt(position));
        }
        for (int position : new int[] {1, 5, 7, 11, 13, 31}) {
            Bounds.refused("towerAt(" + position + ")", NoSuchElementException.class,
                    relay -> relay.towerAt(position));
        }
        SmokeRelay relay = Bounds.rowOf(31, 0);
        Check.due("towerAt(31)", relay.towerAt(31), 0);
        Check.due("towerAt(0)", relay.towerAt(0), 1);
        relay.undo();
        Check.fails("towerAt of an undone tower", NoSuchElementException.class, () -> relay.towerAt(0));
    }

    private static void equalEyes() {
        SmokeRelay relay = Bounds.rowOf(9, 8, 7, 6, 5, 4, 3, 2);
        for (int rank = 0; rank < 8; rank++) {
            Check.due("towerByEye(" + rank + ") of equal eyes", relay.towerByEye(rank), rank);
        }
        relay.setGround(2, 9);
        relay.setGround(6, 9);
        relay.setGround(9, 1);
        int[] due = {3, 7, 0, 1, 2, 4, 5, 6};
        for (int rank = 0; rank < 8; rank++) {
            Check.due("towerByEye(" + rank + ")", relay.towerByEye(rank), due[rank]);
        }
    }

    private static void firstAndLastRank() {
        SmokeRelay relay = Bounds.rowOf(9);
        Check.due("the only rank", relay.towerByEye(0), 0);
        relay.addTower(3, 2, 0);
        Check.due("the first rank", relay.towerByEye(0), 1);
        Check.due("the last rank", relay.towerByEye(1), 0);
    }

    private static void noSuchRank() {
        Bounds.refused("the first rank without towers", SmokeRelay::new, NoSuchElementException.class,
                relay -> relay.towerByEye(0));
        for (int rank : Bounds.outside(0, 3)) {
            Bounds.refused("towerByEye(" + rank + ")", NoSuchElementException.class, relay -> relay.towerByEye(rank));
        }
        for (int rank : Bounds.outside(0, 7)) {
            Bounds.refused("towerByEye(" + rank + ") of eight", Bounds::fullRow, NoSuchElementException.class,
                    relay -> relay.towerByEye(rank));
        }
    }
}

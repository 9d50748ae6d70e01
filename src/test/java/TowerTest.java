import java.util.NoSuchElementException;

/** Promises 1 to 11: ground and towers. */
final class TowerTest {
    private static final int[] NO_POSITIONS = {-1, 32, Integer.MIN_VALUE, Integer.MAX_VALUE};

    public static void main(String[] arguments) {
        newObject();
        setGround();
        addTower();
        addTowerThatFails();
        setMood();
        readersOfTowers();
        eye();
        towerAt();
        towerByEye();
        Check.finish("TowerTest");
    }

    private static void newObject() {
        SmokeRelay relay = new SmokeRelay();
        for (int position = 0; position < 32; position++) {
            Check.due("ground of a new object", relay.ground(position), 0);
        }
        Check.due("towers of a new object", relay.towerCount(), 0);
        Check.due("wind of a new object", relay.wind(), 0);
        Check.due("changes of a new object", relay.undoCount(), 0);
        for (char letter = 'a'; letter <= 'p'; letter++) {
            Check.due("sent of a new object", relay.sent(letter), 0);
        }
        Check.due("a new object is consistent", relay.isConsistent(), true);
        Check.due("objects share nothing", new SmokeRelay().setGround(3, 4) + new SmokeRelay().ground(3), 0);
    }

    private static void setGround() {
        SmokeRelay relay = new SmokeRelay();
        Check.due("setGround(0, 9)", relay.setGround(0, 9), 0);
        Check.due("setGround(31, 5)", relay.setGround(31, 5), 0);
        Check.due("setGround(0, 0)", relay.setGround(0, 0), 9);
        Check.due("ground(0)", relay.ground(0), 0);
        Check.due("ground(31)", relay.ground(31), 5);
        Check.due("ground(30)", relay.ground(30), 0);
        for (int position : NO_POSITIONS) {
            Check.fails("setGround no position", IllegalArgumentException.class, () -> relay.setGround(position, 1));
            Check.fails("ground no position", IllegalArgumentException.class, () -> relay.ground(position));
        }
        for (int height : new int[] {-1, 10, Integer.MIN_VALUE, Integer.MAX_VALUE}) {
            Check.fails("setGround no height", IllegalArgumentException.class, () -> relay.setGround(31, height));
        }
        Check.due("ground(31) after failures", relay.ground(31), 5);
        Check.due("changes after failures", relay.undoCount(), 3);
    }

    private static void addTower() {
        SmokeRelay relay = new SmokeRelay();
        for (int tower = 0; tower < 8; tower++) {
            Check.due("addTower", relay.addTower(31 - 2 * tower, tower + 1, tower % 4), tower);
            Check.due("towerCount", relay.towerCount(), tower + 1);
        }
        Check.due("position of the last", relay.positionOf(7), 17);
        Check.due("eye of the last", relay.eye(7), 8);
        Check.due("mood of the last", relay.mood(7), 3);
        Check.due("count of the last", relay.count(7), 0);
        Check.due("log of the last", relay.logLength(7), 0);
        Check.fails("a ninth tower", IllegalStateException.class, () -> relay.addTower(0, 1, 0));
        Check.fails("a ninth wrong tower", IllegalArgumentException.class, () -> relay.addTower(0, 0, 0));
        Check.due("towers after failures", relay.towerCount(), 8);
        relay.undo();
        Check.due("height 9 at position 0", relay.addTower(0, 9, 0), 7);
    }

    private static void addTowerThatFails() {
        SmokeRelay relay = new SmokeRelay();
        relay.addTower(5, 1, 0);
        Check.fails("a tower stands there", IllegalStateException.class, () -> relay.addTower(5, 2, 1));
        Check.fails("mood 4 before the place", IllegalArgumentException.class, () -> relay.addTower(5, 2, 4));
        Check.fails("mood -1", IllegalArgumentException.class, () -> relay.addTower(6, 2, -1));
        Check.fails("height 0", IllegalArgumentException.class, () -> relay.addTower(6, 0, 0));
        Check.fails("height 10", IllegalArgumentException.class, () -> relay.addTower(6, 10, 0));
        for (int position : NO_POSITIONS) {
            Check.fails("no position", IllegalArgumentException.class, () -> relay.addTower(position, 1, 0));
        }
        Check.due("towers after failures", relay.towerCount(), 1);
        Check.due("eye after failures", relay.eye(0), 1);
        Check.due("changes after failures", relay.undoCount(), 1);
    }

    private static void setMood() {
        SmokeRelay relay = new SmokeRelay();
        relay.addTower(5, 1, 2);
        Check.due("setMood(0, 3)", relay.setMood(0, 3), 2);
        Check.due("setMood(0, 0)", relay.setMood(0, 0), 3);
        Check.due("mood(0)", relay.mood(0), 0);
        Check.due("changes", relay.undoCount(), 3);
        Check.fails("mood 4", IllegalArgumentException.class, () -> relay.setMood(0, 4));
        Check.fails("mood -1", IllegalArgumentException.class, () -> relay.setMood(0, -1));
        Check.fails("no tower 1, before the mood", IndexOutOfBoundsException.class, () -> relay.setMood(1, 4));
        Check.fails("no tower -1", IndexOutOfBoundsException.class, () -> relay.setMood(-1, 0));
        Check.due("mood after failures", relay.mood(0), 0);
        Check.due("changes after failures", relay.undoCount(), 3);
    }

    private static void readersOfTowers() {
        SmokeRelay relay = new SmokeRelay();
        Check.due("no towers", relay.towerCount(), 0);
        Check.fails("positionOf(0) without towers", IndexOutOfBoundsException.class, () -> relay.positionOf(0));
        relay.addTower(30, 1, 2);
        relay.addTower(2, 1, 1);
        Check.due("towerCount", relay.towerCount(), 2);
        Check.due("positionOf(0)", relay.positionOf(0), 30);
        Check.due("positionOf(1)", relay.positionOf(1), 2);
        Check.due("mood(0)", relay.mood(0), 2);
        Check.due("mood(1)", relay.mood(1), 1);
        for (int tower : new int[] {-1, 2, 8, Integer.MIN_VALUE, Integer.MAX_VALUE}) {
            Check.fails("positionOf", IndexOutOfBoundsException.class, () -> relay.positionOf(tower));
            Check.fails("eye", IndexOutOfBoundsException.class, () -> relay.eye(tower));
            Check.fails("mood", IndexOutOfBoundsException.class, () -> relay.mood(tower));
        }
    }

    private static void eye() {
        SmokeRelay relay = new SmokeRelay();
        relay.addTower(7, 4, 0);
        Check.due("eye on flat ground", relay.eye(0), 4);
        relay.setGround(7, 9);
        Check.due("eye on a hill", relay.eye(0), 13);
        relay.setGround(8, 5);
        Check.due("eye beside a hill", relay.eye(0), 13);
    }

    private static void towerAt() {
        SmokeRelay relay = new SmokeRelay();
        Check.fails("towerAt without towers", NoSuchElementException.class, () -> relay.towerAt(0));
        relay.addTower(31, 4, 0);
        relay.addTower(0, 4, 0);
        Check.due("towerAt(31)", relay.towerAt(31), 0);
        Check.due("towerAt(0)", relay.towerAt(0), 1);
        Check.fails("towerAt(1)", NoSuchElementException.class, () -> relay.towerAt(1));
        for (int position : NO_POSITIONS) {
            Check.fails("towerAt no position", IllegalArgumentException.class, () -> relay.towerAt(position));
        }
    }

    private static void towerByEye() {
        SmokeRelay relay = new SmokeRelay();
        Check.fails("no ranks", NoSuchElementException.class, () -> relay.towerByEye(0));
        relay.addTower(4, 3, 0);
        relay.addTower(3, 5, 0);
        relay.addTower(2, 3, 0);
        relay.addTower(1, 2, 0);
        relay.setGround(1, 9);
        int[] due = {3, 1, 0, 2};
        for (int rank = 0; rank < 4; rank++) {
            Check.due("towerByEye(" + rank + ")", relay.towerByEye(rank), due[rank]);
        }
        relay.setGround(2, 1);
        Check.due("a lead of one", relay.towerByEye(2), 2);
        for (int rank : new int[] {-1, 4, Integer.MIN_VALUE, Integer.MAX_VALUE}) {
            Check.fails("towerByEye(" + rank + ")", NoSuchElementException.class, () -> relay.towerByEye(rank));
        }
    }
}

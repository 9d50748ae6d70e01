import java.util.NoSuchElementException;

/** The ordinary answers of promises 2 to 11: ground and towers. */
final class TowerAnswers {
    private TowerAnswers() {
    }

    static void test() {
        testChanges();
        testQuestions();
    }

    private static void testChanges() {
        Sentences.under("Promise 2");
        Sentences.holds("Sets the ground at a position.", TowerAnswers::setsTheGround);
        Sentences.holds("Returns the previous height.", TowerAnswers::previousHeight);
        Sentences.under("Promise 3");
        Sentences.holds("Adds a tower.", TowerAnswers::addsATower);
        Sentences.holds("Returns the index of the tower.", TowerAnswers::indexOfTheNewTower);
        Sentences.under("Promise 4");
        Sentences.holds("Sets the mood of a tower.", TowerAnswers::setsTheMood);
        Sentences.holds("Returns the previous mood.", TowerAnswers::previousMood);
    }

    private static void testQuestions() {
        Sentences.under("Promise 5");
        Sentences.hold("Returns the height of the ground at a position.", "Returns the height.",
                TowerAnswers::heightOfTheGround);
        Sentences.under("Promise 7");
        Sentences.hold("Returns the position of a tower.", "Returns the position.", TowerAnswers::positionOfATower);
        Sentences.under("Promise 8");
        Sentences.hold("Returns the height of the eye of a tower.", "Returns the height.", TowerAnswers::heightOfAnEye);
        Sentences.under("Promise 9");
        Sentences.hold("Returns the mood of a tower.", "Returns the mood.", TowerAnswers::moodOfATower);
        Sentences.under("Promise 10");
        Sentences.hold("Returns the tower at a position.", "Returns the index of the tower.",
                TowerAnswers::towerAtAPosition);
        Sentences.under("Promise 11");
        Sentences.holds("Returns the index of the tower.", TowerAnswers::towersInTheOrderOfEyes);
    }

    private static void setsTheGround() {
        SmokeRelay relay = new SmokeRelay();
        relay.setGround(12, 4);
        relay.setGround(13, 7);
        relay.setGround(12, 6);
        for (int position = 0; position < 32; position++) {
            int due = position == 12 ? 6 : position == 13 ? 7 : 0;
            Check.due("ground(" + position + ")", relay.ground(position), due);
        }
        Check.due("ground of another object", new SmokeRelay().ground(12), 0);
        Check.due("changes", relay.undoCount(), 3);
    }

    private static void previousHeight() {
        SmokeRelay relay = new SmokeRelay();
        Check.due("setGround(3, 5)", relay.setGround(3, 5), 0);
        Check.due("setGround(3, 2)", relay.setGround(3, 2), 5);
        Check.due("setGround(4, 8)", relay.setGround(4, 8), 0);
        Check.due("setGround(3, 2) again", relay.setGround(3, 2), 2);
        relay.undo();
        relay.undo();
        relay.undo();
        Check.due("setGround(3, 1) after undo", relay.setGround(3, 1), 5);
    }

    private static void addsATower() {
        SmokeRelay relay = new SmokeRelay();
        relay.setGround(17, 2);
        relay.addTower(17, 8, 3);
        relay.addTower(4, 3, 1);
        Check.due("towers", relay.towerCount(), 2);
        Check.due("position of the second", relay.positionOf(1), 4);
        Check.due("eye of the second", relay.eye(1), 3);
        Check.due("mood of the second", relay.mood(1), 1);
        Check.due("count of the second", relay.count(1), 0);
        Check.due("log of the second", relay.logLength(1), 0);
        Check.due("position of the first", relay.positionOf(0), 17);
        Check.due("eye of the first", relay.eye(0), 10);
        Check.due("mood of the first", relay.mood(0), 3);
        Check.due("changes", relay.undoCount(), 3);
        Check.due("towers of another object", new SmokeRelay().towerCount(), 0);
    }

    private static void indexOfTheNewTower() {
        SmokeRelay relay = new SmokeRelay();
        for (int tower = 0; tower < 8; tower++) {
            int position = 31 - 4 * tower;
            Check.due("addTower", relay.addTower(position, tower + 1, tower % 4), tower);
            Check.due("towerAt", relay.towerAt(position), tower);
            Check.due("eye", relay.eye(tower), tower + 1);
            Check.due("mood", relay.mood(tower), tower % 4);
        }
        relay.undo();
        relay.undo();
        Check.due("the index of an undone tower", relay.addTower(0, 9, 0), 6);
    }

    private static void setsTheMood() {
        SmokeRelay relay = Bounds.rowOf(3, 4, 5);
        relay.setMood(1, 2);
        relay.setMood(2, 3);
        int[] due = {0, 2, 3};
        for (int tower = 0; tower < 3; tower++) {
            Check.due("mood(" + tower + ")", relay.mood(tower), due[tower]);
        }
        Check.due("what it sends next", relay.nextPattern(1, 'a'), 1);
        Check.due("what another one sends next", relay.nextPattern(0, 'a'), 0);
        Check.due("changes", relay.undoCount(), 5);
    }

    private static void previousMood() {
        SmokeRelay relay = Bounds.rowOf(3, 4);
        Check.due("setMood(1, 2)", relay.setMood(1, 2), 0);
        Check.due("setMood(1, 3)", relay.setMood(1, 3), 2);
        Check.due("setMood(0, 1)", relay.setMood(0, 1), 0);
        Check.due("setMood(1, 3) again", relay.setMood(1, 3), 3);
    }

    private static void heightOfTheGround() {
        SmokeRelay relay = new SmokeRelay();
        int[] heights = {0, 9, 4, 1, 0, 5};
        for (int position = 0; position < heights.length; position++) {
            relay.setGround(10 + position, heights[position]);
        }
        relay.addTower(12, 7, 0);
        for (int position = 0; position < heights.length; position++) {
            Check.due("ground, with a tower or not", relay.ground(10 + position), heights[position]);
        }
        relay.undo();
        relay.undo();
        Check.due("ground after undo", relay.ground(15), 0);
    }

    private static void positionOfATower() {
        SmokeRelay relay = Bounds.rowOf(30, 2, 17);
        relay.setGround(2, 9);
        Check.due("positionOf(0)", relay.positionOf(0), 30);
        Check.due("positionOf(1)", relay.positionOf(1), 2);
        Check.due("positionOf(2)", relay.positionOf(2), 17);
    }

    private static void heightOfAnEye() {
        SmokeRelay relay = new SmokeRelay();
        relay.addTower(7, 4, 0);
        relay.addTower(20, 6, 0);
        Check.due("eye on flat ground", relay.eye(0), 4);
        relay.setGround(7, 8);
        Check.due("eye on a hill", relay.eye(0), 12);
        relay.setGround(8, 5);
        Check.due("eye beside a hill", relay.eye(0), 12);
        Check.due("eye of the other tower", relay.eye(1), 6);
        relay.setGround(7, 1);
        Check.due("eye on a lower hill", relay.eye(0), 5);
    }

    private static void moodOfATower() {
        SmokeRelay relay = new SmokeRelay();
        relay.addTower(30, 1, 2);
        relay.addTower(2, 1, 1);
        relay.addTower(3, 1, 0);
        relay.addTower(4, 1, 3);
        int[] due = {2, 1, 0, 3};
        for (int tower = 0; tower < 4; tower++) {
            Check.due("mood(" + tower + ")", relay.mood(tower), due[tower]);
        }
    }

    private static void towerAtAPosition() {
        SmokeRelay relay = Bounds.rowOf(22, 21, 9);
        Check.due("towerAt(22)", relay.towerAt(22), 0);
        Check.due("towerAt(21)", relay.towerAt(21), 1);
        Check.due("towerAt(9)", relay.towerAt(9), 2);
        Check.fails("towerAt(20)", NoSuchElementException.class, () -> relay.towerAt(20));
        Check.fails("towerAt(2)", NoSuchElementException.class, () -> relay.towerAt(2));
    }

    private static void towersInTheOrderOfEyes() {
        SmokeRelay relay = new SmokeRelay();
        relay.addTower(4, 3, 0);
        relay.addTower(3, 5, 0);
        relay.addTower(2, 3, 0);
        relay.addTower(1, 2, 0);
        relay.setGround(1, 9);
        dueOrder(relay, 3, 1, 0, 2);
        relay.setGround(2, 1);
        dueOrder(relay, 3, 1, 2, 0);
        relay.setGround(1, 0);
        dueOrder(relay, 1, 2, 0, 3);
    }

    private static void dueOrder(SmokeRelay relay, int... towers) {
        for (int rank = 0; rank < towers.length; rank++) {
            Check.due("towerByEye(" + rank + ")", relay.towerByEye(rank), towers[rank]);
        }
    }
}

import java.util.NoSuchElementException;

/** Promises 19 to 26: wind and relays. */
final class RelayTest {
    public static void main(String[] arguments) {
        wind();
        delays();
        relayToItself();
        relayOverOthers();
        relayOfFewestTowers();
        relayOfSmallestIndices();
        relayOverOneTower();
        noRelay();
        wrongTowers();
        groups();
        Check.finish("RelayTest");
    }

    private static void wind() {
        SmokeRelay relay = new SmokeRelay();
        Check.due("setWind(9)", relay.setWind(9), 0);
        Check.due("setWind(-9)", relay.setWind(-9), 9);
        Check.due("wind", relay.wind(), -9);
        for (int wind : new int[] {-10, 10, Integer.MIN_VALUE, Integer.MAX_VALUE}) {
            Check.fails("setWind(" + wind + ")", IllegalArgumentException.class, () -> relay.setWind(wind));
        }
        Check.due("wind after failures", relay.wind(), -9);
        Check.due("changes after failures", relay.undoCount(), 2);
    }

    private static void delays() {
        SmokeRelay relay = new SmokeRelay();
        relay.addTower(20, 1, 0);
        relay.addTower(12, 1, 0);
        Check.due("delay without wind", relay.delay(0, 1), 8);
        relay.setWind(7);
        Check.due("delay with the wind", relay.delay(1, 0), 1);
        Check.due("delay against the wind", relay.delay(0, 1), 15);
        relay.setWind(8);
        Check.due("delay is at least 1", relay.delay(1, 0), 1);
        relay.setWind(-9);
        Check.due("delay with the other wind", relay.delay(0, 1), 1);
        Check.due("delay against the other wind", relay.delay(1, 0), 17);
        relay.setGround(15, 9);
        Check.fails("delay without sight", NoSuchElementException.class, () -> relay.delay(0, 1));
        Check.fails("delay to itself", NoSuchElementException.class, () -> relay.delay(0, 0));
    }

    private static void dueRelay(SmokeRelay relay, int from, int to, int delay, int... towers) {
        String pair = "(" + from + ", " + to + ")";
        Check.due("relayDelay" + pair, relay.relayDelay(from, to), delay);
        Check.due("relayDelayByTable" + pair, relay.relayDelayByTable(from, to), delay);
        Check.due("relayLength" + pair, relay.relayLength(from, to), towers.length);
        for (int place = 0; place < towers.length; place++) {
            Check.due("relayTower" + pair + place, relay.relayTower(from, to, place), towers[place]);
        }
        for (int place : new int[] {-1, towers.length, 8, Integer.MIN_VALUE, Integer.MAX_VALUE}) {
            Check.fails("relayTower" + pair + place, NoSuchElementException.class,
                    () -> relay.relayTower(from, to, place));
        }
    }

    private static void relayToItself() {
        SmokeRelay relay = new SmokeRelay();
        relay.addTower(20, 1, 0);
        dueRelay(relay, 0, 0, 0, 0);
        relay.addTower(21, 1, 0);
        relay.setWind(9);
        dueRelay(relay, 1, 1, 0, 1);
    }

    private static void relayOverOthers() {
        SmokeRelay relay = new SmokeRelay();
        for (int tower = 0; tower < 8; tower++) {
            relay.addTower(4 * tower, 1, 0);
        }
        dueRelay(relay, 0, 7, 28, 0, 7);
        relay.setWind(1);
        dueRelay(relay, 0, 7, 21, 0, 1, 2, 3, 4, 5, 6, 7);
        dueRelay(relay, 7, 0, 29, 7, 0);
        relay.setGround(9, 1);
        dueNoRelay(relay, 0, 7);
    }

    private static void dueNoRelay(SmokeRelay relay, int from, int to) {
        Check.fails("relayDelay", NoSuchElementException.class, () -> relay.relayDelay(from, to));
        Check.fails("relayDelayByTable", NoSuchElementException.class, () -> relay.relayDelayByTable(from, to));
        Check.fails("relayLength", NoSuchElementException.class, () -> relay.relayLength(from, to));
        Check.fails("relayTower", NoSuchElementException.class, () -> relay.relayTower(from, to, 0));
    }

    /** Without wind every way rightwards has the same delay; the direct one has the fewest towers. */
    private static void relayOfFewestTowers() {
        SmokeRelay relay = new SmokeRelay();
        relay.addTower(0, 1, 0);
        relay.addTower(5, 1, 0);
        relay.addTower(10, 9, 0);
        relay.addTower(30, 1, 0);
        dueRelay(relay, 0, 3, 30, 0, 3);
        relay.setGround(29, 1);
        dueRelay(relay, 0, 3, 30, 0, 2, 3);
        relay.setGround(29, 0);
        relay.setGround(4, 1);
        dueRelay(relay, 0, 3, 30, 0, 2, 3);
    }

    /** With a strong wind all single steps rightwards take 1, so that only the indices decide. */
    private static void relayOfSmallestIndices() {
        SmokeRelay relay = new SmokeRelay();
        relay.addTower(8, 9, 0);
        relay.addTower(0, 1, 0);
        relay.addTower(6, 9, 0);
        relay.addTower(4, 9, 0);
        relay.addTower(12, 1, 0);
        relay.setGround(2, 2);
        relay.setGround(10, 2);
        relay.setWind(9);
        dueRelay(relay, 1, 4, 2, 1, 0, 4);
        relay.setGround(1, 2);
        dueRelay(relay, 1, 4, 2, 1, 2, 4);
    }

    /** Two towers in dells see no other one but the tower on the ridge between them. */
    private static void relayOverOneTower() {
        for (int ridge = 0; ridge < 3; ridge++) {
            SmokeRelay relay = new SmokeRelay();
            for (int tower = 0; tower < 3; tower++) {
                relay.addTower(tower == ridge ? 10 : 6 + 8 * ((tower - ridge + 3) % 3 - 1), 1, 0);
            }
            relay.setGround(10, 9);
            int left = (ridge + 1) % 3;
            int right = (ridge + 2) % 3;
            Check.due("by table alone", relay.relayDelayByTable(left, right), 8);
            dueRelay(relay, left, right, 8, left, ridge, right);
            relay.setWind(3);
            Check.due("by table after a change", relay.relayDelayByTable(right, left), 14);
            dueRelay(relay, right, left, 14, right, ridge, left);
            Check.due("one group over the ridge", relay.groupCount(), 1);
        }
    }

    private static void noRelay() {
        SmokeRelay relay = new SmokeRelay();
        relay.addTower(0, 1, 0);
        relay.addTower(2, 1, 0);
        relay.setGround(1, 1);
        dueNoRelay(relay, 0, 1);
        dueNoRelay(relay, 1, 0);
        dueRelay(relay, 1, 1, 0, 1);
    }

    private static void wrongTowers() {
        SmokeRelay relay = new SmokeRelay();
        relay.addTower(0, 1, 0);
        for (int tower : new int[] {-1, 1, 8, Integer.MIN_VALUE, Integer.MAX_VALUE}) {
            for (int side = 0; side < 2; side++) {
                int from = side == 0 ? tower : 0;
                int to = side == 0 ? 0 : tower;
                Check.fails("delay", IndexOutOfBoundsException.class, () -> relay.delay(from, to));
                Check.fails("relayDelay", IndexOutOfBoundsException.class, () -> relay.relayDelay(from, to));
                Check.fails("relayDelayByTable", IndexOutOfBoundsException.class,
                        () -> relay.relayDelayByTable(from, to));
                Check.fails("relayLength", IndexOutOfBoundsException.class, () -> relay.relayLength(from, to));
                Check.fails("relayTower", IndexOutOfBoundsException.class, () -> relay.relayTower(from, to, 9));
            }
        }
    }

    private static void groups() {
        SmokeRelay relay = new SmokeRelay();
        Check.due("groups without towers", relay.groupCount(), 0);
        relay.addTower(0, 1, 0);
        Check.due("groups of one tower", relay.groupCount(), 1);
        relay.addTower(10, 1, 0);
        relay.addTower(20, 1, 0);
        relay.addTower(30, 1, 0);
        Check.due("groups on flat ground", relay.groupCount(), 1);
        relay.setGround(15, 1);
        Check.due("groups on both sides", relay.groupCount(), 2);
        relay.setGround(5, 1);
        Check.due("three groups", relay.groupCount(), 3);
        relay.setGround(25, 9);
        Check.due("four groups", relay.groupCount(), 4);
        relay.setGround(25, 0);
        relay.addTower(14, 9, 0);
        Check.due("groups joined by a tower", relay.groupCount(), 1);
    }
}

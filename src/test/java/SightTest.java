/** Promises 12 to 18: sight and watches. */
final class SightTest {
    private static final int[] NO_TOWERS = {-1, 3, Integer.MIN_VALUE, Integer.MAX_VALUE};

    public static void main(String[] arguments) {
        towersOnFlatGround();
        towersOverHills();
        towersThatAreWrong();
        positions();
        positionsThatAreWrong();
        watches();
        watchWhereTheWidestSightMisleads();
        Check.finish("SightTest");
    }

    private static void dueSight(SmokeRelay relay, int one, int other, boolean want) {
        String pair = "(" + one + ", " + other + ")";
        Check.due("canSee" + pair, relay.canSee(one, other), want);
        Check.due("canSeeBySlopes" + pair, relay.canSeeBySlopes(one, other), want);
        Check.due("canSee back" + pair, relay.canSee(other, one), want);
        Check.due("canSeeBySlopes back" + pair, relay.canSeeBySlopes(other, one), want);
    }

    private static SmokeRelay threeTowers() {
        SmokeRelay relay = new SmokeRelay();
        relay.addTower(0, 2, 0);
        relay.addTower(31, 2, 0);
        relay.addTower(1, 9, 0);
        return relay;
    }

    private static void towersOnFlatGround() {
        SmokeRelay relay = threeTowers();
        dueSight(relay, 0, 1, true);
        dueSight(relay, 0, 2, true);
        for (int tower = 0; tower < 3; tower++) {
            dueSight(relay, tower, tower, false);
        }
    }

    private static void towersOverHills() {
        SmokeRelay relay = threeTowers();
        relay.setGround(16, 1);
        dueSight(relay, 0, 1, true);
        relay.setGround(16, 2);
        dueSight(relay, 0, 1, false);
        relay.setGround(16, 0);
        relay.setGround(0, 9);
        relay.setGround(1, 9);
        relay.setGround(2, 9);
        dueSight(relay, 0, 1, true);
        dueSight(relay, 1, 2, true);
        relay.setGround(0, 0);
        dueSight(relay, 0, 1, false);
        dueSight(relay, 0, 2, true);
        slopedLine();
    }

    /** From 9 down to 1 over 8 positions: at the middle the line is at 5, one further at 4. */
    private static void slopedLine() {
        SmokeRelay relay = new SmokeRelay();
        relay.addTower(10, 9, 0);
        relay.addTower(18, 1, 0);
        relay.setGround(14, 4);
        dueSight(relay, 0, 1, true);
        relay.setGround(14, 5);
        dueSight(relay, 0, 1, false);
        relay.setGround(14, 0);
        relay.setGround(17, 1);
        dueSight(relay, 0, 1, true);
        relay.setGround(17, 2);
        dueSight(relay, 0, 1, false);
        relay.setGround(17, 0);
        relay.setGround(19, 9);
        relay.setGround(9, 9);
        dueSight(relay, 0, 1, true);
    }

    private static void towersThatAreWrong() {
        SmokeRelay relay = threeTowers();
        for (int tower : NO_TOWERS) {
            Check.fails("canSee", IndexOutOfBoundsException.class, () -> relay.canSee(tower, 0));
            Check.fails("canSee", IndexOutOfBoundsException.class, () -> relay.canSee(0, tower));
            Check.fails("canSeeBySlopes", IndexOutOfBoundsException.class, () -> relay.canSeeBySlopes(tower, 0));
            Check.fails("canSeeBySlopes", IndexOutOfBoundsException.class, () -> relay.canSeeBySlopes(0, tower));
            Check.fails("seesPosition", IndexOutOfBoundsException.class, () -> relay.seesPosition(tower, 99));
            Check.fails("seenPositions", IndexOutOfBoundsException.class, () -> relay.seenPositions(tower));
        }
    }

    private static void positions() {
        SmokeRelay relay = new SmokeRelay();
        relay.addTower(10, 1, 0);
        Check.due("all of flat ground", relay.seenPositions(0), 32);
        relay.setGround(15, 5);
        relay.setGround(8, 1);
        Check.due("its own position", relay.seesPosition(0, 10), true);
        Check.due("before the hill", relay.seesPosition(0, 14), true);
        Check.due("the hill itself", relay.seesPosition(0, 15), true);
        Check.due("behind the hill", relay.seesPosition(0, 16), false);
        Check.due("the last position", relay.seesPosition(0, 31), false);
        Check.due("a low hill itself", relay.seesPosition(0, 8), true);
        Check.due("behind the low hill", relay.seesPosition(0, 7), false);
        Check.due("seenPositions", relay.seenPositions(0), 8);
        relay.addTower(16, 9, 0);
        relay.setGround(0, 9);
        Check.due("a high peak far away", relay.seesPosition(0, 0), true);
        Check.due("watchers of the peak", relay.watchersOf(0), 2);
        Check.due("watchers before the hill", relay.watchersOf(14), 1);
        Check.due("watchers of the hill", relay.watchersOf(15), 2);
        Check.due("watchers of 31", relay.watchersOf(31), 1);
        relay.setGround(30, 9);
        Check.due("watchers of a hidden end", relay.watchersOf(31), 0);
    }

    private static void positionsThatAreWrong() {
        SmokeRelay relay = threeTowers();
        for (int position : new int[] {-1, 32, Integer.MIN_VALUE, Integer.MAX_VALUE}) {
            Check.fails("seesPosition", IllegalArgumentException.class, () -> relay.seesPosition(0, position));
            Check.fails("watchersOf", IllegalArgumentException.class, () -> relay.watchersOf(position));
        }
        Check.due("watchers without towers", new SmokeRelay().watchersOf(0), 0);
    }

    private static void dueWatch(SmokeRelay relay, int want) {
        Check.due("fewestWatchers", relay.fewestWatchers(), want);
        Check.due("fewestWatchersByRecursion", relay.fewestWatchersByRecursion(), want);
    }

    private static void watches() {
        SmokeRelay relay = new SmokeRelay();
        dueWatch(relay, 0);
        relay.addTower(0, 1, 0);
        dueWatch(relay, 1);
        relay.addTower(31, 1, 0);
        dueWatch(relay, 1);
        relay.setGround(16, 9);
        dueWatch(relay, 2);
        for (int tower = 2; tower < 8; tower++) {
            relay.addTower(4 * tower - 4, 1, 0);
        }
        for (int position = 2; position < 32; position += 4) {
            relay.setGround(position, 9);
        }
        dueWatch(relay, 8);
    }

    /** The tower in the middle sees most, but both others are needed and see all that it sees. */
    private static void watchWhereTheWidestSightMisleads() {
        SmokeRelay relay = new SmokeRelay();
        relay.addTower(15, 3, 0);
        relay.addTower(3, 1, 0);
        relay.addTower(28, 1, 0);
        relay.setGround(16, 9);
        dueWatch(relay, 2);
    }
}

import java.util.NoSuchElementException;

/** The boundary cases of promises 19 to 26: wind and relays. */
final class RelayBounds {
    private static final String NO_TOWERS = "Throws IndexOutOfBoundsException if there is no such tower, for either";
    private static final String NO_RELAY = "Throws NoSuchElementException if there is no relay";

    private RelayBounds() {
    }

    static void test() {
        Sentences.under("Promise 19");
        Sentences.holds("Throws IllegalArgumentException if wind is not from -9 to 9", RelayBounds::windIsRefused);
        Sentences.under("Promise 21");
        Sentences.holds(NO_TOWERS, () -> Bounds.noSuchTowerForEither("delay", SmokeRelay::delay));
        Sentences.holds("Throws NoSuchElementException if they do not see each other", RelayBounds::noSight);
        testRelays("Promise 22", "relayDelay", SmokeRelay::relayDelay);
        testRelays("Promise 23", "relayDelayByTable", SmokeRelay::relayDelayByTable);
        testRelays("Promise 24", "relayLength", SmokeRelay::relayLength);
        testPlaces();
        Sentences.under("Promise 26");
        Sentences.holds("Returns the number of groups of towers: two towers are in the same group if there is a relay"
                + " from the one to the other.", RelayBounds::fewestAndMostGroups);
    }

    private static void testRelays(String heading, String name, Bounds.PairCall call) {
        Sentences.under(heading);
        Sentences.holds(NO_TOWERS, () -> Bounds.noSuchTowerForEither(name, call));
        Sentences.holds(NO_RELAY, () -> dueNoRelay(name, call));
    }

    private static void testPlaces() {
        Sentences.under("Promise 25");
        Sentences.holds("place: the place in the relay, from 0", RelayBounds::firstAndLastPlace);
        Sentences.holds(NO_TOWERS, () -> Bounds.noSuchTowerForEither("relayTower",
                (relay, from, to) -> relay.relayTower(from, to, 0)));
        Sentences.holds(NO_RELAY + ", or no such place in it", () -> {
            dueNoRelay("relayTower", (relay, from, to) -> relay.relayTower(from, to, 0));
            noSuchPlace();
        });
    }

    /** Behind a hill of the village there is no way for anyone, but each tower has a relay to itself. */
    static void dueNoRelay(String name, Bounds.PairCall call) {
        for (int tower = 0; tower < 3; tower++) {
            int one = tower;
            Bounds.refused(name + " to the hidden tower", NoSuchElementException.class,
                    relay -> call.on(relay, one, 3));
            Bounds.refused(name + " from the hidden tower", NoSuchElementException.class,
                    relay -> call.on(relay, 3, one));
        }
        Bounds.taken(name + " of the hidden tower alone", () -> call.on(Bounds.village(), 3, 3));
        Bounds.taken(name + " of two others", () -> call.on(Bounds.village(), 0, 2));
        SmokeRelay relay = Bounds.village();
        relay.setGround(16, 0);
        Bounds.taken(name + " where the hill was", () -> call.on(relay, 0, 3));
    }

    private static void windIsRefused() {
        for (int wind : Bounds.outside(-9, 9)) {
            Bounds.refused("setWind(" + wind + ")", IllegalArgumentException.class, relay -> relay.setWind(wind));
        }
        SmokeRelay relay = new SmokeRelay();
        Check.due("setWind(9)", relay.setWind(9), 0);
        Check.due("setWind(-9)", relay.setWind(-9), 9);
        Check.due("wind", relay.wind(), -9);
    }

    private static void noSight() {
        Bounds.refused("delay to itself", NoSuchElementException.class, relay -> relay.delay(1, 1));
        Bounds.refused("delay over the hill", NoSuchElementException.class, relay -> relay.delay(2, 3));
        Bounds.refused("delay back over the hill", NoSuchElementException.class, relay -> relay.delay(3, 2));
        SmokeRelay ridge = Bounds.rowOf(4, 10, 18);
        ridge.setGround(10, 9);
        Check.fails("delay where there is but a relay", NoSuchElementException.class, () -> ridge.delay(0, 2));
        Check.due("delay to the ridge", ridge.delay(0, 1), 6);
        Check.due("relayDelay over the ridge", ridge.relayDelay(0, 2), 14);
    }

    private static void firstAndLastPlace() {
        SmokeRelay relay = Bounds.fullRow();
        relay.setWind(2);
        Check.due("length of the longest relay", relay.relayLength(0, 7), 8);
        for (int place = 0; place < 8; place++) {
            Check.due("relayTower(0, 7, " + place + ")", relay.relayTower(0, 7, place), place);
        }
        Check.due("the only place", relay.relayTower(5, 5, 0), 5);
    }

    private static void noSuchPlace() {
        for (int place : Bounds.outside(0, 1)) {
            Bounds.refused("place " + place + " of two", NoSuchElementException.class,
                    relay -> relay.relayTower(0, 1, place));
        }
        for (int place : Bounds.outside(0, 0)) {
            Bounds.refused("place " + place + " of one", NoSuchElementException.class,
                    relay -> relay.relayTower(3, 3, place));
        }
        SmokeRelay relay = Bounds.fullRow();
        relay.setWind(2);
        for (int place : Bounds.outside(0, 7)) {
            Check.fails("place " + place + " of eight", NoSuchElementException.class,
                    () -> relay.relayTower(0, 7, place));
        }
    }

    private static void fewestAndMostGroups() {
        Check.due("groups without towers", new SmokeRelay().groupCount(), 0);
        Check.due("groups of one tower", Bounds.rowOf(0).groupCount(), 1);
        Check.due("groups of a full row", Bounds.fullRow().groupCount(), 1);
        SmokeRelay relay = Bounds.rowOf(1, 5, 9, 13, 17, 21, 25, 29);
        for (int hills = 1; hills < 8; hills++) {
            relay.setGround(4 * hills - 1, 9);
            Check.due("groups with " + hills + " hills", relay.groupCount(), hills + 1);
        }
        relay = Bounds.rowOf(4, 18, 10);
        relay.setGround(10, 9);
        Check.due("groups joined by a ridge", relay.groupCount(), 1);
    }
}

/** The ordinary answers of promises 12 to 18: sight and watches. */
final class SightAnswers {
    private SightAnswers() {
    }

    static void test() {
        Sentences.under("Promise 12");
        Sentences.holds("Returns whether two towers see each other, computed by comparing the ground at each position"
                + " between them with the line.", () -> dueSights(SmokeRelay::canSee));
        Sentences.under("Promise 13");
        Sentences.holds("Returns true if they see each other.", () -> dueSights(SmokeRelay::canSeeBySlopes));
        Sentences.under("Promise 14");
        Sentences.hold("Returns whether a tower sees a position.", "Returns true if it sees it.",
                SightAnswers::positionsThatATowerSees);
        Sentences.under("Promise 15");
        Sentences.holds("Returns the number of positions that a tower sees.", SightAnswers::numberOfPositions);
        Sentences.under("Promise 16");
        Sentences.holds("Returns the number of towers that see a position.", SightAnswers::numberOfWatchers);
        Sentences.under("Promise 17");
        Sentences.holds("Returns the number of towers of the smallest watch, computed by trying sets of towers, the"
                + " small ones first.", () -> dueWatches(SmokeRelay::fewestWatchers));
        Sentences.under("Promise 18");
        Sentences.holds("Returns the same as fewestWatchers, but is computed by recursion: each time, all towers that"
                + " see the first position that is not seen yet are tried.",
                () -> dueWatches(SmokeRelay::fewestWatchersByRecursion));
    }

    private static void dueSights(SightBounds.PairQuestion sees) {
        SmokeRelay relay = new SmokeRelay();
        relay.addTower(0, 2, 0);
        relay.addTower(31, 2, 0);
        relay.addTower(1, 9, 0);
        dueSight(sees, relay, 0, 1, true);
        dueSight(sees, relay, 0, 2, true);
        relay.setGround(16, 1);
        dueSight(sees, relay, 0, 1, true);
        relay.setGround(16, 2);
        dueSight(sees, relay, 0, 1, false);
        dueSight(sees, relay, 1, 2, true);
        relay.setGround(16, 0);
        for (int position = 0; position < 3; position++) {
            relay.setGround(position, 9);
        }
        dueSight(sees, relay, 0, 1, true);
        dueSight(sees, relay, 1, 2, true);
        relay.setGround(0, 0);
        dueSight(sees, relay, 0, 1, false);
        dueSight(sees, relay, 0, 2, true);
        dueSightAlongASlope(sees);
    }

    private static void dueSight(SightBounds.PairQuestion sees, SmokeRelay relay, int one, int other, boolean want) {
        Check.due("from " + one + " to " + other, sees.of(relay, one, other), want);
        Check.due("from " + other + " to " + one, sees.of(relay, other, one), want);
    }

    /** From 9 down to 1 over 8 positions: at the middle the line is at 5, just before the end at 2. */
    private static void dueSightAlongASlope(SightBounds.PairQuestion sees) {
        SmokeRelay relay = new SmokeRelay();
        relay.addTower(10, 9, 0);
        relay.addTower(18, 1, 0);
        int[][] hills = {{14, 4}, {14, 5}, {17, 1}, {17, 2}, {11, 7}, {11, 8}};
        for (int[] hill : hills) {
            relay.setGround(hill[0], hill[1]);
            dueSight(sees, relay, 0, 1, hill[0] + hill[1] < 19);
            relay.setGround(hill[0], 0);
        }
        relay.setGround(19, 9);
        relay.setGround(9, 9);
        dueSight(sees, relay, 0, 1, true);
    }

    /** A tower of height 1 at 10, with a hill of 5 at 15 and one of 1 at 8. */
    private static SmokeRelay betweenHills() {
        SmokeRelay relay = Bounds.rowOf(10);
        relay.setGround(15, 5);
        relay.setGround(8, 1);
        return relay;
    }

    private static void positionsThatATowerSees() {
        SmokeRelay relay = betweenHills();
        for (int position = 0; position < 32; position++) {
            Check.due("seesPosition(0, " + position + ")", relay.seesPosition(0, position),
                    position >= 8 && position <= 15);
        }
        relay.setGround(31, 9);
        Check.due("a peak that is too low", relay.seesPosition(0, 31), false);
        relay.setGround(15, 2);
        Check.due("a peak above the hill", relay.seesPosition(0, 31), true);
        Check.due("the ground before the peak", relay.seesPosition(0, 30), false);
    }

    private static void numberOfPositions() {
        Check.due("all of flat ground", Bounds.rowOf(10).seenPositions(0), 32);
        SmokeRelay relay = betweenHills();
        Check.due("between two hills", relay.seenPositions(0), 8);
        relay.addTower(16, 9, 0);
        Check.due("all but those just behind the hills", relay.seenPositions(1), 30);
        relay.setGround(20, 9);
        relay.setGround(31, 9);
        Check.due("with a hill before an equal one", relay.seenPositions(1), 19);
    }

    private static void numberOfWatchers() {
        SmokeRelay relay = betweenHills();
        relay.addTower(16, 9, 0);
        relay.setGround(0, 9);
        Check.due("watchers of a peak", relay.watchersOf(0), 2);
        Check.due("watchers before the hill", relay.watchersOf(14), 1);
        Check.due("watchers of the hill", relay.watchersOf(15), 2);
        Check.due("watchers behind the hill", relay.watchersOf(31), 1);
        relay.setGround(30, 9);
        Check.due("watchers of a hidden end", relay.watchersOf(31), 0);
        relay.addTower(31, 1, 0);
        Check.due("watchers with a tower there", relay.watchersOf(31), 1);
    }

    private static void dueWatches(SightBounds.Question fewest) {
        SmokeRelay relay = Bounds.rowOf(0, 31);
        Check.due("on flat ground", fewest.of(relay), 1);
        relay.setGround(16, 9);
        Check.due("with a hill between", fewest.of(relay), 2);
        for (int position : new int[] {4, 8, 12, 20, 24, 28}) {
            relay.addTower(position, 1, 0);
        }
        Check.due("with more towers on both sides", fewest.of(relay), 2);
        relay.setGround(10, 9);
        Check.due("with two hills between", fewest.of(relay), 3);
        dueWatchWhereTheWidestSightMisleads(fewest);
    }

    /** The tower in the middle sees most, but both others are needed and see all that it sees. */
    private static void dueWatchWhereTheWidestSightMisleads(SightBounds.Question fewest) {
        SmokeRelay relay = new SmokeRelay();
        relay.addTower(15, 3, 0);
        relay.addTower(3, 1, 0);
        relay.addTower(28, 1, 0);
        relay.setGround(16, 9);
        Check.due("where the widest sight misleads", fewest.of(relay), 2);
    }
}

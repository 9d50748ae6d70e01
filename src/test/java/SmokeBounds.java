import java.util.NoSuchElementException;

/** The boundary cases of promises 27 to 37: patterns, moods, sending and logs. */
final class SmokeBounds {
    private static final String NO_TOWER = "Throws IndexOutOfBoundsException if there is no such tower";
    private static final String NO_LETTER = "Throws IllegalArgumentException if letter is not from 'a' to 'p'";
    private static final String NO_PATTERN = "Throws IllegalArgumentException if pattern is not from 0 to 255";
    private static final String NOT_READ = "Throws NoSuchElementException if the pattern cannot be read";

    interface Reading {
        char of(SmokeRelay relay, int pattern);
    }

    private SmokeBounds() {
    }

    static void test() {
        Sentences.under("Promise 27");
        Sentences.holds(NO_LETTER, () -> Bounds.noSuchLetter("pattern", SmokeRelay::pattern));
        testReading("Promise 28", "read", SmokeRelay::read);
        testReading("Promise 29", "readBySearch", SmokeRelay::readBySearch);
        Sentences.under("Promise 30");
        Sentences.holds("Returns the number of smokes, 0 to 2.", SmokeBounds::fewestAndMostWrongSmokes);
        Sentences.holds(NO_PATTERN, () -> Bounds.noSuchPattern("wrongSmokes", SmokeRelay::wrongSmokes));
        Sentences.under("Promise 31");
        Sentences.holds(NO_TOWER,
                () -> Bounds.noSuchTower("nextPattern", (relay, tower) -> relay.nextPattern(tower, 'a')));
        Sentences.holds(NO_LETTER,
                () -> Bounds.noSuchLetter("nextPattern", (relay, letter) -> relay.nextPattern(0, letter)));
        testSending();
        testLogs();
    }

    private static void testReading(String heading, String name, Reading reading) {
        Sentences.under(heading);
        Sentences.holds(NO_PATTERN, () -> Bounds.noSuchPattern(name, reading::of));
        Sentences.holds(NOT_READ, () -> dueNotRead(name, reading));
    }

    private static void testSending() {
        Sentences.under("Promise 32");
        Sentences.holds("If both towers are the same, nobody sends or reads, but the letter counts as sent.",
                SmokeBounds::sentToItself);
        Sentences.holds(NO_TOWER + ", for either",
                () -> Bounds.noSuchTowerForEither("send", (relay, from, to) -> relay.send(from, to, 'a')));
        Sentences.holds(NO_LETTER, () -> Bounds.noSuchLetter("send", (relay, letter) -> relay.send(0, 1, letter)));
        Sentences.holds("Throws UnsupportedOperationException if it is refused; the reason and the detail are kept",
                SmokeBounds::refusalIsKept);
        Sentences.under("Promise 33");
        Sentences.holds("Returns whether a letter would be refused if it was sent now.",
                SmokeBounds::askingAheadOfSending);
        Sentences.holds("Returns true if it would be refused.", SmokeBounds::wouldBeRefused);
        Sentences.holds(NO_TOWER + ", for either", () -> Bounds.noSuchTowerForEither("wouldBeRefused",
                (relay, from, to) -> relay.wouldBeRefused(from, to, 'a')));
        Sentences.holds(NO_LETTER,
                () -> Bounds.noSuchLetter("wouldBeRefused", (relay, letter) -> relay.wouldBeRefused(0, 1, letter)));
    }

    private static void testLogs() {
        Sentences.under("Promise 34");
        Sentences.holds("Returns the number of signals that it has sent.", SmokeBounds::countFromZeroOn);
        Sentences.holds(NO_TOWER, () -> Bounds.noSuchTower("count", SmokeRelay::count));
        Sentences.under("Promise 35");
        Sentences.holds("Returns the number of letters, at most 8.", SmokeBounds::logIsFull);
        Sentences.holds(NO_TOWER, () -> Bounds.noSuchTower("logLength", SmokeRelay::logLength));
        Sentences.under("Promise 36");
        Sentences.holds("recency: 0 for the latest letter, 1 for the one before, and so on", SmokeBounds::recencies);
        Sentences.holds(NO_TOWER, () -> Bounds.noSuchTower("logLetter", (relay, tower) -> relay.logLetter(tower, 0)));
        Sentences.holds("Throws NoSuchElementException if there is no such letter", SmokeBounds::noSuchRecency);
        Sentences.under("Promise 37");
        Sentences.holds("Returns how often a letter was sent so far, each sending counted once.",
                SmokeBounds::sendingCountsOnce);
        Sentences.holds(NO_LETTER, () -> Bounds.noSuchLetter("sent", SmokeRelay::sent));
    }

    /** One wrong smoke is read, whichever it is; two wrong smokes are not, whichever they are. */
    private static void dueNotRead(String name, Reading reading) {
        for (char letter = 'a'; letter <= 'p'; letter++) {
            int pattern = new SmokeRelay().pattern(letter);
            Check.due(name + " of no wrong smoke", reading.of(new SmokeRelay(), pattern), letter);
            for (int smoke = 0; smoke < 8; smoke++) {
                int wrong = pattern ^ 1 << smoke;
                Check.due(name + " of one wrong smoke", reading.of(new SmokeRelay(), wrong), letter);
                for (int other = 0; other < smoke; other++) {
                    int twiceWrong = wrong ^ 1 << other;
                    Check.fails(name + " of " + twiceWrong, NoSuchElementException.class,
                            () -> reading.of(new SmokeRelay(), twiceWrong));
                }
            }
        }
        Bounds.refused(name + " of two wrong smokes", NoSuchElementException.class, relay -> reading.of(relay, 3));
    }

    private static void fewestAndMostWrongSmokes() {
        SmokeRelay relay = new SmokeRelay();
        Check.due("wrongSmokes of a letter", relay.wrongSmokes(15), 0);
        for (int smoke = 0; smoke < 8; smoke++) {
            Check.due("wrongSmokes of one smoke", relay.wrongSmokes(1 << smoke), 1);
            Check.due("wrongSmokes of two smokes", relay.wrongSmokes(1 << smoke | 1 << (smoke + 1) % 8), 2);
            Check.due("wrongSmokes of all but one", relay.wrongSmokes(255 ^ 1 << smoke), 1);
        }
        for (int pattern = 0; pattern < 256; pattern++) {
            int wrong = relay.wrongSmokes(pattern);
            Check.due("wrongSmokes(" + pattern + ") is 0 to 2", wrong >= 0 && wrong <= 2, true);
        }
    }

    private static void sentToItself() {
        SmokeRelay relay = Bounds.village();
        for (int tower = 0; tower < 4; tower++) {
            int count = relay.count(tower);
            int logged = relay.logLength(tower);
            Check.due("delay to itself", relay.send(tower, tower, 'p'), 0);
            Check.due("count after sending to itself", relay.count(tower), count);
            Check.due("log after sending to itself", relay.logLength(tower), logged);
            Check.due("sent p", relay.sent('p'), tower + 1);
        }
        SmokeRelay garbler = Bounds.rowOf(1, 2);
        garbler.setMood(0, 3);
        garbler.send(0, 1, 'a');
        Check.due("garbled for another tower", garbler.wouldBeRefused(0, 1, 'b'), true);
        Check.due("but not for itself", garbler.send(0, 0, 'b'), 0);
        Check.due("count", garbler.count(0), 1);
    }

    private static void refusalIsKept() {
        SmokeRelay relay = Bounds.village();
        Check.fails("no relay", UnsupportedOperationException.class, () -> relay.send(3, 0, 'a'));
        Check.due("reason", relay.refusalReason(), SmokeRelay.NO_RELAY);
        Check.due("detail", relay.refusalDetail(), 3);
        Check.fails("garbled", UnsupportedOperationException.class, () -> relay.send(1, 0, 'a'));
        Check.due("reason", relay.refusalReason(), SmokeRelay.GARBLED);
        Check.due("detail", relay.refusalDetail(), 0);
        Check.fails("no relay", UnsupportedOperationException.class, () -> relay.send(0, 3, 'a'));
        Check.due("reason", relay.refusalReason(), SmokeRelay.NO_RELAY);
        Check.due("detail", relay.refusalDetail(), 0);
        relay.send(0, 1, 'a');
        Check.due("reason after a sending", relay.refusalReason(), SmokeRelay.NO_RELAY);
        Check.due("detail after a sending", relay.refusalDetail(), 0);
    }

    private static void wouldBeRefused() {
        int[][] refused = {{3, 0}, {0, 3}, {1, 0}, {1, 2}, {2, 0}};
        int[][] sent = {{0, 1}, {2, 1}, {0, 2}, {3, 3}, {1, 1}};
        for (int[] pair : refused) {
            Check.due("wouldBeRefused", Bounds.village().wouldBeRefused(pair[0], pair[1], 'a'), true);
            Check.fails("send", UnsupportedOperationException.class,
                    () -> Bounds.village().send(pair[0], pair[1], 'a'));
        }
        for (int[] pair : sent) {
            Check.due("wouldBeRefused", Bounds.village().wouldBeRefused(pair[0], pair[1], 'a'), false);
            Bounds.taken("send", () -> Bounds.village().send(pair[0], pair[1], 'a'));
        }
    }

    /** Asking changes nothing, not even the latest refusal. */
    private static void askingAheadOfSending() {
        for (int to = 0; to < 4; to++) {
            SmokeRelay relay = Bounds.village();
            relay.wouldBeRefused(3, to, 'a');
            relay.wouldBeRefused(1, to, 'a');
            Check.dueText("what is asked afterwards", Asked.of(relay), Asked.of(Bounds.village()));
        }
        SmokeRelay fresh = Bounds.rowOf(1, 2);
        fresh.setMood(0, 3);
        Check.due("at the count 0", fresh.wouldBeRefused(0, 1, 'a'), false);
        fresh.send(0, 1, 'a');
        Check.due("at the count 1", fresh.wouldBeRefused(0, 1, 'a'), true);
    }

    static void countFromZeroOn() {
        SmokeRelay relay = Bounds.rowOf(3, 4);
        for (int count = 0; count < 20; count++) {
            Check.due("count of the sender", relay.count(0), count);
            Check.due("count of the reader", relay.count(1), 0);
            relay.send(0, 1, 'a');
        }
    }

    private static void logIsFull() {
        SmokeRelay relay = Bounds.rowOf(3, 4);
        for (int sendings = 0; sendings < 20; sendings++) {
            Check.due("log after " + sendings, relay.logLength(1), sendings < 8 ? sendings : 8);
            Check.due("log of the sender", relay.logLength(0), 0);
            relay.send(0, 1, 'a');
        }
    }

    private static void recencies() {
        SmokeRelay relay = Bounds.rowOf(3, 4);
        for (int sendings = 1; sendings <= 16; sendings++) {
            relay.send(0, 1, (char) ('a' + sendings - 1));
            for (int recency = 0; recency < sendings && recency < 8; recency++) {
                Check.due("logLetter(1, " + recency + ") after " + sendings, relay.logLetter(1, recency),
                        'a' + sendings - 1 - recency);
            }
        }
    }

    private static void noSuchRecency() {
        Bounds.refused("logLetter of an empty log", NoSuchElementException.class, relay -> relay.logLetter(0, 0));
        for (int recency : Bounds.outside(0, 0)) {
            Bounds.refused("logLetter " + recency + " of one", NoSuchElementException.class,
                    relay -> relay.logLetter(1, recency));
        }
        for (int sendings = 8; sendings < 10; sendings++) {
            SmokeRelay relay = Bounds.rowOf(3, 4);
            for (int sending = 0; sending < sendings; sending++) {
                relay.send(0, 1, 'a');
            }
            for (int recency : Bounds.outside(0, 7)) {
                Check.fails("logLetter " + recency + " of eight", NoSuchElementException.class,
                        () -> relay.logLetter(1, recency));
            }
        }
    }

    private static void sendingCountsOnce() {
        SmokeRelay relay = Bounds.fullRow();
        relay.setWind(2);
        for (int sendings = 0; sendings < 12; sendings++) {
            Check.due("sent", relay.sent('p'), sendings);
            Check.due("delay over eight towers", relay.send(0, 7, 'p'), 14);
        }
        Check.due("sent a", relay.sent('a'), 8);
        Check.due("sent o", relay.sent('o'), 0);
    }
}

import java.util.NoSuchElementException;

/** Promises 27 to 37, 40 and 41: patterns, moods, sending, logs and refusals. */
final class SmokeTest {
    private static final char[] NO_LETTERS = {'`', 'q', 'A', ' ', (char) 0, (char) 255, (char) 0xFFFF};
    private static final int[] NO_PATTERNS = {-1, 256, Integer.MIN_VALUE, Integer.MAX_VALUE};

    public static void main(String[] arguments) {
        patterns();
        readings();
        wrongLettersAndPatterns();
        moods();
        nextPatternThatIsWrong();
        sending();
        sendingToItself();
        refusalWithoutRelay();
        refusalOfGarbledPattern();
        refusalFurtherOn();
        wrongSendings();
        logs();
        Check.finish("SmokeTest");
    }

    private static int patternByHand(int value) {
        boolean[] burns = new boolean[8];
        burns[3] = value % 2 == 1;
        burns[5] = value / 2 % 2 == 1;
        burns[6] = value / 4 % 2 == 1;
        burns[7] = value / 8 % 2 == 1;
        burns[1] = burns[3] ^ burns[5] ^ burns[7];
        burns[2] = burns[3] ^ burns[6] ^ burns[7];
        burns[4] = burns[5] ^ burns[6] ^ burns[7];
        int pattern = 0;
        boolean odd = false;
        for (int smoke = 7; smoke > 0; smoke--) {
            odd ^= burns[smoke];
            pattern = 2 * pattern + (burns[smoke] ? 1 : 0);
        }
        return 2 * pattern + (odd ? 1 : 0);
    }

    private static void patterns() {
        SmokeRelay relay = new SmokeRelay();
        Check.due("pattern a", relay.pattern('a'), 0);
        Check.due("pattern b", relay.pattern('b'), 15);
        Check.due("pattern c", relay.pattern('c'), 0b00110011);
        Check.due("pattern p", relay.pattern('p'), 255);
        for (int value = 0; value < 16; value++) {
            Check.due("pattern", relay.pattern((char) ('a' + value)), patternByHand(value));
        }
    }

    private static void readings() {
        for (int pattern = 0; pattern < 256; pattern++) {
            SmokeRelay relay = new SmokeRelay();
            int nearest = 8;
            char letter = ' ';
            for (int value = 0; value < 16; value++) {
                int differ = Integer.bitCount(patternByHand(value) ^ pattern);
                if (differ < nearest) {
                    nearest = differ;
                    letter = (char) ('a' + value);
                }
            }
            int told = pattern;
            Check.due("wrongSmokes(" + pattern + ")", relay.wrongSmokes(pattern), nearest);
            if (nearest > 1) {
                Check.fails("read(" + pattern + ")", NoSuchElementException.class, () -> relay.read(told));
                Check.fails("readBySearch(" + pattern + ")", NoSuchElementException.class,
                        () -> relay.readBySearch(told));
            } else {
                Check.due("read(" + pattern + ")", relay.read(pattern), letter);
                Check.due("readBySearch(" + pattern + ")", relay.readBySearch(pattern), letter);
            }
        }
    }

    private static void wrongLettersAndPatterns() {
        SmokeRelay relay = new SmokeRelay();
        for (char letter : NO_LETTERS) {
            Check.fails("pattern", IllegalArgumentException.class, () -> relay.pattern(letter));
            Check.fails("sent", IllegalArgumentException.class, () -> relay.sent(letter));
        }
        for (int pattern : NO_PATTERNS) {
            Check.fails("read", IllegalArgumentException.class, () -> relay.read(pattern));
            Check.fails("readBySearch", IllegalArgumentException.class, () -> relay.readBySearch(pattern));
            Check.fails("wrongSmokes", IllegalArgumentException.class, () -> relay.wrongSmokes(pattern));
        }
    }

    /** What each mood changes at the counts 0 to 11, as masks of smokes. */
    private static void moods() {
        int[][] due = {
            {0, 0, 0, 0, 0, 0, 0, 0, 0, 0, 0, 0},
            {0, 0, 4, 0, 0, 32, 0, 0, 1, 0, 0, 8},
            {1, 2, 4, 8, 16, 32, 64, 128, 1, 2, 4, 8},
            {1, 2 + 16, 4, 8 + 64, 16, 32 + 1, 64, 128 + 4, 1, 2 + 16, 4, 8 + 64}
        };
        SmokeRelay relay = new SmokeRelay();
        relay.addTower(0, 1, 0);
        relay.addTower(1, 1, 0);
        for (int count = 0; count < 12; count++) {
            for (int mood = 0; mood < 4; mood++) {
                relay.setMood(0, mood);
                for (char letter = 'a'; letter <= 'p'; letter += 5) {
                    Check.due("nextPattern mood " + mood + " count " + count, relay.nextPattern(0, letter),
                            relay.pattern(letter) ^ due[mood][count]);
                }
            }
            relay.setMood(0, 0);
            relay.send(0, 1, 'f');
            Check.due("count", relay.count(0), count + 1);
        }
        Check.due("count of who only reads", relay.count(1), 0);
    }

    private static void nextPatternThatIsWrong() {
        SmokeRelay relay = new SmokeRelay();
        relay.addTower(0, 1, 0);
        for (char letter : NO_LETTERS) {
            Check.fails("nextPattern letter", IllegalArgumentException.class, () -> relay.nextPattern(0, letter));
            Check.fails("nextPattern both", IndexOutOfBoundsException.class, () -> relay.nextPattern(1, letter));
        }
        Check.fails("nextPattern tower", IndexOutOfBoundsException.class, () -> relay.nextPattern(-1, 'a'));
    }

    /** Four towers of which each sees only its neighbours, at 0, 4, 8 and 12. */
    private static SmokeRelay chain() {
        SmokeRelay relay = new SmokeRelay();
        for (int tower = 0; tower < 4; tower++) {
            relay.addTower(4 * tower, 1, 0);
        }
        for (int tower = 1; tower < 3; tower++) {
            relay.setGround(4 * tower, 2);
        }
        return relay;
    }

    private static void dueCounts(SmokeRelay relay, int... counts) {
        for (int tower = 0; tower < counts.length; tower++) {
            Check.due("count(" + tower + ")", relay.count(tower), counts[tower]);
        }
    }

    private static void dueLogs(SmokeRelay relay, String... logs) {
        for (int tower = 0; tower < logs.length; tower++) {
            StringBuilder log = new StringBuilder();
            for (int recency = relay.logLength(tower) - 1; recency >= 0; recency--) {
                log.append(relay.logLetter(tower, recency));
            }
            Check.dueText("log of " + tower, log.toString(), logs[tower]);
        }
    }

    private static void sending() {
        SmokeRelay relay = chain();
        Check.due("relay of the chain", relay.relayLength(0, 3), 4);
        relay.setMood(1, 2);
        Check.due("send(0, 3, k)", relay.send(0, 3, 'k'), 12);
        dueCounts(relay, 1, 1, 1, 0);
        dueLogs(relay, "", "k", "k", "k");
        Check.due("send(2, 0, b)", relay.send(2, 0, 'b'), 8);
        dueCounts(relay, 1, 2, 2, 0);
        dueLogs(relay, "b", "kb", "k", "k");
        Check.due("sent k", relay.sent('k'), 1);
        Check.due("sent b", relay.sent('b'), 1);
        Check.due("sent c", relay.sent('c'), 0);
        Check.due("sendings are changes", relay.undoCount(), 8);
    }

    private static void sendingToItself() {
        SmokeRelay relay = chain();
        relay.setMood(2, 3);
        Check.due("send to itself", relay.send(2, 2, 'p'), 0);
        Check.due("send to itself again", relay.send(2, 2, 'p'), 0);
        Check.due("never refused", relay.wouldBeRefused(2, 2, 'p'), false);
        Check.due("sent p", relay.sent('p'), 2);
        dueCounts(relay, 0, 0, 0, 0);
        dueLogs(relay, "", "", "", "");
        relay.undo();
        Check.due("sent p after undo", relay.sent('p'), 1);
    }

    private static void dueRefusal(SmokeRelay relay, int from, int to, int reason, int detail) {
        int changes = relay.undoCount();
        Check.due("wouldBeRefused", relay.wouldBeRefused(from, to, 'a'), true);
        Check.fails("send", UnsupportedOperationException.class, () -> relay.send(from, to, 'a'));
        Check.due("refusalReason", relay.refusalReason(), reason);
        Check.due("refusalDetail", relay.refusalDetail(), detail);
        Check.due("changes after a refusal", relay.undoCount(), changes);
        Check.due("sent after a refusal", relay.sent('a'), 0);
    }

    private static void refusalWithoutRelay() {
        SmokeRelay relay = chain();
        Check.fails("no reason yet", NoSuchElementException.class, relay::refusalReason);
        Check.fails("no detail yet", NoSuchElementException.class, relay::refusalDetail);
        Check.due("not refused", relay.wouldBeRefused(0, 3, 'a'), false);
        relay.setGround(6, 9);
        Check.due("refused", relay.wouldBeRefused(3, 0, 'a'), true);
        Check.fails("asking keeps no reason", NoSuchElementException.class, relay::refusalReason);
        dueRefusal(relay, 3, 0, SmokeRelay.NO_RELAY, 3);
        dueRefusal(relay, 1, 2, SmokeRelay.NO_RELAY, 1);
        dueCounts(relay, 0, 0, 0, 0);
        dueLogs(relay, "", "", "", "");
        relay.undo();
        relay.send(0, 3, 'b');
        Check.due("the reason stays", relay.refusalReason(), SmokeRelay.NO_RELAY);
        Check.due("the detail stays", relay.refusalDetail(), 1);
    }

    private static void refusalOfGarbledPattern() {
        SmokeRelay relay = chain();
        relay.setMood(1, 3);
        relay.send(1, 2, 'c');
        dueRefusal(relay, 1, 2, SmokeRelay.GARBLED, 2);
        dueRefusal(relay, 1, 0, SmokeRelay.GARBLED, 0);
        dueCounts(relay, 0, 1, 0, 0);
        relay.setMood(1, 2);
        Check.due("one wrong smoke is read", relay.send(1, 2, 'd'), 4);
        dueLogs(relay, "", "", "cd", "");
    }

    private static void refusalFurtherOn() {
        SmokeRelay relay = chain();
        relay.setMood(1, 3);
        relay.setMood(2, 3);
        relay.send(1, 2, 'c');
        dueRefusal(relay, 0, 3, SmokeRelay.GARBLED, 2);
        relay.send(2, 3, 'e');
        dueRefusal(relay, 0, 3, SmokeRelay.GARBLED, 2);
        relay.setMood(1, 0);
        dueRefusal(relay, 0, 3, SmokeRelay.GARBLED, 3);
        dueRefusal(relay, 3, 0, SmokeRelay.GARBLED, 1);
        dueCounts(relay, 0, 1, 1, 0);
        dueLogs(relay, "", "", "c", "e");
    }

    private static void wrongSendings() {
        SmokeRelay relay = chain();
        relay.setGround(6, 9);
        for (int tower : new int[] {-1, 4, 8, Integer.MIN_VALUE, Integer.MAX_VALUE}) {
            Check.fails("send", IndexOutOfBoundsException.class, () -> relay.send(tower, 0, 'z'));
            Check.fails("send", IndexOutOfBoundsException.class, () -> relay.send(0, tower, 'z'));
            Check.fails("wouldBeRefused", IndexOutOfBoundsException.class,
                    () -> relay.wouldBeRefused(tower, 0, 'z'));
            Check.fails("wouldBeRefused", IndexOutOfBoundsException.class,
                    () -> relay.wouldBeRefused(0, tower, 'z'));
            Check.fails("count", IndexOutOfBoundsException.class, () -> relay.count(tower));
            Check.fails("logLength", IndexOutOfBoundsException.class, () -> relay.logLength(tower));
            Check.fails("logLetter", IndexOutOfBoundsException.class, () -> relay.logLetter(tower, 0));
        }
        for (char letter : NO_LETTERS) {
            Check.fails("send", IllegalArgumentException.class, () -> relay.send(0, 3, letter));
            Check.fails("wouldBeRefused", IllegalArgumentException.class,
                    () -> relay.wouldBeRefused(0, 3, letter));
        }
        Check.fails("nothing was refused", NoSuchElementException.class, relay::refusalReason);
        Check.fails("nothing was refused", NoSuchElementException.class, relay::refusalDetail);
    }

    private static void logs() {
        SmokeRelay relay = chain();
        Check.due("log at first", relay.logLength(1), 0);
        Check.fails("empty log", NoSuchElementException.class, () -> relay.logLetter(1, 0));
        for (int value = 0; value < 11; value++) {
            relay.send(0, 1, (char) ('a' + value));
            Check.due("logLength", relay.logLength(1), Math.min(value + 1, 8));
            Check.due("latest letter", relay.logLetter(1, 0), 'a' + value);
        }
        dueLogs(relay, "", "defghijk", "", "");
        for (int recency : new int[] {-1, 8, Integer.MIN_VALUE, Integer.MAX_VALUE}) {
            Check.fails("logLetter", NoSuchElementException.class, () -> relay.logLetter(1, recency));
        }
        relay.undo();
        dueLogs(relay, "", "cdefghij", "", "");
    }
}

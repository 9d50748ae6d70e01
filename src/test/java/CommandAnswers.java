import java.util.NoSuchElementException;

/** The ordinary answers of promises 49 to 56: commands, undo and saved state. */
final class CommandAnswers {
    private CommandAnswers() {
    }

    static void test() {
        Sentences.under("Promise 49");
        Sentences.holds("Appends a character to the input buffer.", CommandAnswers::feeding);
        Sentences.under("Promise 51");
        Sentences.holds("Returns the error position.", CommandAnswers::malformedTexts);
        Sentences.under("Promise 52");
        Sentences.holds("Returns the index of the command.", CommandAnswers::failedCommands);
        Sentences.under("Promise 54");
        Sentences.holds("Returns the number of changes that can be undone.", CommandAnswers::undoing);
        testRuns();
    }

    /** Longer runs, in which several promises meet. */
    private static void testRuns() {
        Check.within("commands: ", CommandAnswers::commands);
        Check.within("refusals of commands: ", CommandAnswers::refusalInCommands);
        Check.within("undo of every kind: ", CommandAnswers::undoOfEveryKind);
        Check.within("towers that were undone: ", CommandAnswers::undoneTowersLeaveNothing);
        Check.within("towers that were restored: ", CommandAnswers::restoredTowers);
        Check.within("what undo leaves: ", CommandAnswers::whatUndoLeaves);
        Check.within("saved state: ", CommandAnswers::saving);
    }

    private static void feeding() {
        SmokeRelay relay = new SmokeRelay();
        String text = "wind 3;wind -4";
        for (int place = 0; place < text.length(); place++) {
            Check.due("feed", relay.feed(text.charAt(place)), place + 1);
            Check.due("the wind is not yet set", relay.wind(), 0);
        }
        Check.due("both commands", relay.execute(), 2);
        Check.due("wind", relay.wind(), -4);
        Check.due("feed the next text", relay.feed('w'), 1);
        Check.due("the next text", Check.executeText(relay, "ind 7"), 1);
        Check.due("wind", relay.wind(), 7);
    }

    private static void commands() {
        SmokeRelay relay = new SmokeRelay();
        Check.due("one command", Check.executeText(relay, "tower 5+3!2"), 1);
        Check.due("the buffer is empty afterwards", relay.feed('t'), 1);
        Check.due("four commands", Check.executeText(relay, "ower 31+9!0;ground 03*9;wind -4;send 0>1:k"), 4);
        Check.due("towers", relay.towerCount(), 2);
        Check.due("position", relay.positionOf(0), 5);
        Check.due("eye", relay.eye(0), 3);
        Check.due("mood", relay.mood(0), 2);
        Check.due("position of the second", relay.positionOf(1), 31);
        Check.due("ground", relay.ground(3), 9);
        Check.due("wind", relay.wind(), -4);
        Check.due("sent", relay.sent('k'), 1);
        Check.due("count", relay.count(0), 1);
        Check.due("log", relay.logLetter(1, 0), 'k');
        Check.due("changes", relay.undoCount(), 2);
        Check.due("wind 5", Check.executeText(relay, "wind 5"), 1);
        Check.due("wind", relay.wind(), 5);
        Check.due("wind -0 and mood", Check.executeText(relay, "wind -0;mood 1!3"), 2);
        Check.due("wind", relay.wind(), 0);
        Check.due("mood", relay.mood(1), 3);
        Check.due("eight commands",
                Check.executeText(relay, "wind 1;wind 2;wind 3;wind 4;wind 5;wind 6;wind 7;wind 8"), 8);
        Check.due("wind", relay.wind(), 8);
        Check.due("the last letter", Check.executeText(relay, "send 1>1:p;send 1>1:a"), 2);
        Check.due("sent p", relay.sent('p'), 1);
        Check.fails("no failed command", NoSuchElementException.class, relay::failedCommand);
        Check.fails("no error position", NoSuchElementException.class, relay::errorPosition);
        Check.feedText(relay, "send 1>");
        Check.fails("an earlier text is gone", IllegalArgumentException.class, relay::execute);
        Check.due("error position", relay.errorPosition(), 7);
    }

    private static void dueMalformed(String text, int position) {
        SmokeRelay relay = new SmokeRelay();
        Check.feedText(relay, text);
        Check.fails("'" + text + "'", IllegalArgumentException.class, relay::execute);
        Check.due("error position of '" + text + "'", relay.errorPosition(), position);
        Check.due("towers after a malformed text", relay.towerCount(), 0);
        Check.due("wind after a malformed text", relay.wind(), 0);
        Check.due("changes after a malformed text", relay.undoCount(), 0);
        Check.fails("no failed command", NoSuchElementException.class, relay::failedCommand);
        Check.due("the buffer is empty afterwards", relay.feed('x'), 1);
    }

    private static void malformedTexts() {
        dueMalformed("", 0);
        dueMalformed(";", 0);
        dueMalformed("x", 0);
        dueMalformed("Wind 3", 0);
        dueMalformed(" wind 3", 0);
        dueMalformed("w", 1);
        dueMalformed("wint 3", 3);
        dueMalformed("wind", 4);
        dueMalformed("wind3", 4);
        dueMalformed("wind ", 5);
        dueMalformed("wind  3", 5);
        dueMalformed("wind -", 6);
        dueMalformed("wind --3", 6);
        dueMalformed("wind 33", 6);
        dueMalformed("wind 3;", 7);
        dueMalformed("wind 3;;wind 3", 7);
        dueMalformed("wind 3; wind 3", 7);
        dueMalformed("wind 3,wind 3", 6);
        dueMalformed("ground *3", 7);
        dueMalformed("ground 3", 8);
        dueMalformed("ground 31", 9);
        dueMalformed("ground 311*3", 9);
        dueMalformed("ground -1*3", 7);
        dueMalformed("ground 3*", 9);
        dueMalformed("ground 3*10", 10);
        dueMalformed("ground 3*a", 9);
        dueMalformed("tower 3*3", 7);
        dueMalformed("tower 30+3*1", 10);
        dueMalformed("tower 30+33!1", 10);
        dueMalformed("tower 30+3!", 11);
        dueMalformed("tower 30+3!11", 12);
        dueMalformed("mood 10!1", 6);
        dueMalformed("mood 1:1", 6);
        dueMalformed("send 0>1", 8);
        dueMalformed("send 0>1:", 9);
        dueMalformed("send 0>1:q", 9);
        dueMalformed("send 0>1:A", 9);
        dueMalformed("send 0>1:ab", 10);
        dueMalformed("send 0<1:a", 6);
        dueMalformed("send 10>1:a", 6);
        dueMalformed("tower 1+1!0;wind 5;towel", 23);
        dueMalformed("wind 1;wind 2;wind 3;wind 4;wind 5;wind 6;wind 7;wind 8;wind", 60);
        dueMalformed("wind " + (char) 0x663, 5);
        dueMalformed("wind " + (char) 0xFF13, 5);
    }

    private static void dueFailed(String before, String text, int command) {
        SmokeRelay relay = new SmokeRelay();
        Check.executeText(relay, before);
        int towers = relay.towerCount();
        int wind = relay.wind();
        Check.feedText(relay, text);
        Check.fails("'" + text + "'", UnsupportedOperationException.class, relay::execute);
        Check.due("failed command of '" + text + "'", relay.failedCommand(), command);
        Check.fails("no error position", NoSuchElementException.class, relay::errorPosition);
        Check.due("towers after a failed text", relay.towerCount(), towers);
        Check.due("wind after a failed text", relay.wind(), wind);
        Check.due("changes after a failed text", relay.undoCount(), 1);
        Check.due("the buffer is empty afterwards", relay.feed('x'), 1);
    }

    private static void failedCommands() {
        dueFailed("wind 1", "ground 32*1", 0);
        dueFailed("wind 1", "wind 2;ground 99*1", 1);
        dueFailed("wind 1", "tower 32+1!0", 0);
        dueFailed("wind 1", "tower 5+0!0", 0);
        dueFailed("wind 1", "tower 5+1!4", 0);
        dueFailed("tower 5+1!0", "wind 2;tower 6+1!0;tower 05+1!0;wind 3", 2);
        dueFailed("wind 1", "mood 0!0", 0);
        dueFailed("tower 5+1!0", "mood 0!4", 0);
        dueFailed("tower 5+1!0", "mood 9!0", 0);
        dueFailed("tower 5+1!0", "send 0>1:a", 0);
        dueFailed("tower 5+1!0", "wind 2;send 1>0:a;wind 3", 1);
        dueFailed("tower 0+1!0;tower 1+1!0;tower 2+1!0;tower 3+1!0", "wind 3;mood 4!0", 1);
        ninthTower();
    }

    private static void ninthTower() {
        SmokeRelay relay = new SmokeRelay();
        Check.executeText(relay, "tower 0+1!0;tower 1+1!0;tower 2+1!0;tower 3+1!0");
        Check.executeText(relay, "tower 4+1!0;tower 5+1!0;tower 6+1!0");
        Check.feedText(relay, "tower 7+1!0;tower 8+1!0;wind 3");
        Check.fails("a ninth tower", UnsupportedOperationException.class, relay::execute);
        Check.due("failed command", relay.failedCommand(), 1);
        Check.due("towers", relay.towerCount(), 7);
        Check.feedText(relay, "x");
        Check.fails("malformed", IllegalArgumentException.class, relay::execute);
        Check.due("the failed command stays", relay.failedCommand(), 1);
        Check.feedText(relay, "mood 9!1");
        Check.fails("failed", UnsupportedOperationException.class, relay::execute);
        Check.due("the failed command is the latest", relay.failedCommand(), 0);
        Check.due("the error position stays", relay.errorPosition(), 0);
    }

    private static void refusalInCommands() {
        SmokeRelay relay = new SmokeRelay();
        Check.executeText(relay, "tower 0+1!3;tower 5+1!0;tower 9+1!0");
        Check.feedText(relay, "send 0>1:a;send 0>1:b;send 2>1:c");
        Check.fails("a garbled letter", UnsupportedOperationException.class, relay::execute);
        Check.due("failed command", relay.failedCommand(), 1);
        Check.due("reason", relay.refusalReason(), SmokeRelay.GARBLED);
        Check.due("detail", relay.refusalDetail(), 1);
        Check.due("count", relay.count(0), 0);
        Check.due("log", relay.logLength(1), 0);
        Check.due("sent", relay.sent('a'), 0);
        Check.feedText(relay, "ground 7*9;send 2>0:a");
        Check.fails("a letter without relay", UnsupportedOperationException.class, relay::execute);
        Check.due("reason", relay.refusalReason(), SmokeRelay.NO_RELAY);
        Check.due("detail", relay.refusalDetail(), 2);
        Check.due("ground", relay.ground(7), 0);
        Check.due("changes", relay.undoCount(), 1);
    }

    private static void undoing() {
        SmokeRelay relay = new SmokeRelay();
        Check.fails("undo at first", IllegalStateException.class, relay::undo);
        for (int change = 1; change <= 11; change++) {
            relay.setGround(change, 1);
            Check.due("undoCount", relay.undoCount(), Math.min(change, 8));
        }
        for (int left = 7; left >= 0; left--) {
            Check.due("undo", relay.undo(), left);
            Check.due("undoCount", relay.undoCount(), left);
            Check.due("undone ground", relay.ground(left + 4), 0);
            Check.due("ground not undone", relay.ground(left + 3), 1);
        }
        Check.fails("undo at the end", IllegalStateException.class, relay::undo);
        relay.setWind(3);
        relay.setWind(3);
        Check.due("a change that changes nothing", relay.undo(), 1);
        Check.due("wind", relay.wind(), 3);
        Check.due("undo", relay.undo(), 0);
        Check.due("wind", relay.wind(), 0);
    }

    private static void undoOfEveryKind() {
        SmokeRelay relay = new SmokeRelay();
        relay.addTower(0, 1, 0);
        relay.addTower(5, 1, 1);
        relay.setGround(5, 2);
        relay.setMood(1, 2);
        relay.setWind(4);
        relay.send(0, 1, 'c');
        Check.executeText(relay, "tower 9+1!0;wind 7;send 1>2:d");
        Check.due("undo execute", relay.undo(), 6);
        Check.due("towers", relay.towerCount(), 2);
        Check.due("wind", relay.wind(), 4);
        Check.due("count of the sender", relay.count(1), 0);
        Check.due("sent d", relay.sent('d'), 0);
        Check.due("undo send", relay.undo(), 5);
        Check.due("count", relay.count(0), 0);
        Check.due("log", relay.logLength(1), 0);
        Check.due("sent c", relay.sent('c'), 0);
        Check.due("undo setWind", relay.undo(), 4);
        Check.due("wind", relay.wind(), 0);
        Check.due("undo setMood", relay.undo(), 3);
        Check.due("mood", relay.mood(1), 1);
        Check.due("undo setGround", relay.undo(), 2);
        Check.due("eye", relay.eye(1), 1);
        Check.due("undo addTower", relay.undo(), 1);
        Check.due("towers", relay.towerCount(), 1);
        Check.fails("tower 1", IndexOutOfBoundsException.class, () -> relay.eye(1));
    }

    private static void undoneTowersLeaveNothing() {
        SmokeRelay relay = new SmokeRelay();
        relay.addTower(0, 1, 0);
        relay.save();
        relay.addTower(5, 1, 0);
        relay.send(1, 0, 'c');
        relay.send(0, 1, 'c');
        relay.restore();
        relay.addTower(6, 2, 1);
        Check.due("count of the new tower", relay.count(1), 0);
        Check.due("log of the new tower", relay.logLength(1), 0);
        Check.due("position of the new tower", relay.positionOf(1), 6);
    }

    private static void restoredTowers() {
        SmokeRelay relay = new SmokeRelay();
        for (int tower = 0; tower < 8; tower++) {
            relay.addTower(tower, 1, 0);
        }
        relay.send(0, 7, 'd');
        relay.send(0, 7, 'e');
        relay.save();
        for (int time = 0; time < 8; time++) {
            relay.undo();
        }
        relay.restore();
        Check.dueText("tower after restoring", Check.output(relay, relay.writeTower(7)), "7+1!0:de");
        for (int time = 0; time < 8; time++) {
            relay.send(6, 7, 'f');
        }
        relay.undo();
        Check.dueText("log after undo", Check.output(relay, relay.writeTower(7)), "7+1!0:efffffff");
        replacedTower();
    }

    private static void replacedTower() {
        SmokeRelay relay = new SmokeRelay();
        relay.addTower(5, 2, 1);
        relay.save();
        relay.undo();
        relay.addTower(9, 7, 3);
        Check.due("position", relay.positionOf(0), 9);
        relay.restore();
        Check.dueText("the tower that was saved", Check.output(relay, relay.writeTower(0)), "5+2!1");
    }

    private static void whatUndoLeaves() {
        SmokeRelay relay = new SmokeRelay();
        relay.addTower(0, 1, 0);
        relay.addTower(5, 1, 0);
        relay.setGround(2, 9);
        Check.fails("refused", UnsupportedOperationException.class, () -> relay.send(1, 0, 'a'));
        Check.feedText(relay, "wind 3;mood 7!1");
        Check.fails("failed", UnsupportedOperationException.class, relay::execute);
        Check.feedText(relay, "wind?");
        Check.fails("malformed", IllegalArgumentException.class, relay::execute);
        int length = relay.writePattern(5);
        Check.feedText(relay, "wind");
        relay.save();
        relay.undo();
        relay.restore();
        Check.due("reason", relay.refusalReason(), SmokeRelay.NO_RELAY);
        Check.due("detail", relay.refusalDetail(), 1);
        Check.due("failed command", relay.failedCommand(), 1);
        Check.due("error position", relay.errorPosition(), 4);
        Check.dueText("output", Check.output(relay, length), "*.*.....");
        Check.due("the input buffer goes on", Check.executeText(relay, " 6"), 1);
        Check.due("wind", relay.wind(), 6);
    }

    private static void saving() {
        SmokeRelay relay = new SmokeRelay();
        Check.fails("nothing was saved", IllegalStateException.class, relay::restore);
        Check.due("save without towers", relay.save(), 0);
        relay.addTower(0, 1, 0);
        relay.addTower(5, 1, 0);
        relay.setGround(9, 4);
        relay.setWind(2);
        relay.send(0, 1, 'e');
        Check.due("save", relay.save(), 2);
        Check.due("saving keeps the changes", relay.undoCount(), 5);
        relay.send(0, 1, 'f');
        relay.setMood(0, 3);
        relay.setGround(9, 5);
        relay.setWind(-2);
        relay.addTower(7, 1, 0);
        for (int time = 0; time < 2; time++) {
            Check.due("restore", relay.restore(), 2);
            Check.due("changes", relay.undoCount(), 0);
            Check.fails("undo", IllegalStateException.class, relay::undo);
            Check.due("ground", relay.ground(9), 4);
            Check.due("wind", relay.wind(), 2);
            Check.due("mood", relay.mood(0), 0);
            Check.due("count", relay.count(0), 1);
            Check.due("log", relay.logLetter(1, 0), 'e');
            Check.due("log length", relay.logLength(1), 1);
            Check.due("sent e", relay.sent('e'), 1);
            Check.due("sent f", relay.sent('f'), 0);
            relay.setWind(9);
            Check.due("changes after restoring", relay.undoCount(), 1);
        }
        Check.due("undo", relay.undo(), 0);
        Check.due("undo goes back to what was restored", relay.wind(), 2);
    }
}

import java.util.NoSuchElementException;

/** The boundary cases of promises 49 to 56: commands, undo and saved state. */
final class CommandBounds {
    private static final String NONE_KEPT = "Throws NoSuchElementException if none was kept";
    /** Texts of 60 characters: few long commands, and as many short ones as there is room for. */
    static final String FIVE_COMMANDS = "ground 10*1;ground 11*1;ground 12*1;ground 13*1;tower 14+1!0";
    static final String EIGHT_COMMANDS = "wind -1;wind -2;wind -3;wind -4;wind -5;wind 6;wind 7;wind 8";

    private CommandBounds() {
    }

    static void test() {
        Sentences.under("Promise 49");
        Sentences.holds("Returns the new length of the input buffer.", CommandBounds::lengthOfTheBuffer);
        Sentences.holds("character: any character", CommandBounds::anyCharacter);
        Sentences.holds("Throws IllegalStateException if the input buffer holds 60 characters",
                CommandBounds::fullBuffer);
        testExecute();
        testKept();
        testUndo();
        testSaved();
    }

    private static void testExecute() {
        Sentences.under("Promise 50");
        Sentences.holds("Executes the text in the input buffer, command by command, either all commands or none.",
                CommandBounds::allCommandsOrNone);
        Sentences.holds("The input buffer is empty afterwards, also if an exception is thrown.",
                CommandBounds::bufferIsEmptyAfterwards);
        Sentences.holds("A refusal of a command is kept, too.", CommandBounds::refusalOfACommand);
        Sentences.holds("Returns the number of commands.", CommandBounds::fewestAndMostCommands);
        Sentences.holds("Throws IllegalArgumentException if the text is malformed; its error position is kept",
                CommandBounds::malformed);
        Sentences.holds("Throws UnsupportedOperationException if a command throws an exception; the index of the"
                + " command, from 0, is kept as the failed command", CommandBounds::failingCommands);
    }

    private static void testKept() {
        Sentences.under("Promise 51");
        Sentences.holds("Returns the error position that was kept last.", CommandBounds::latestErrorPosition);
        Sentences.holds(NONE_KEPT, CommandBounds::noErrorPosition);
        Sentences.under("Promise 52");
        Sentences.holds("Returns the failed command that was kept last.", CommandBounds::latestFailedCommand);
        Sentences.holds(NONE_KEPT, CommandBounds::noFailedCommand);
    }

    private static void testUndo() {
        Sentences.under("Promise 53");
        Sentences.holds("Undoes the latest change that is not undone.", CommandBounds::latestChange);
        Sentences.holds("Returns the number of changes that can still be undone.", CommandBounds::changesLeft);
        Sentences.holds("Throws IllegalStateException if there is none", CommandBounds::nothingToUndo);
        Sentences.under("Promise 54");
        Sentences.holds("Returns the number of changes, at most 8.", CommandBounds::fewestAndMostChanges);
    }

    private static void testSaved() {
        Sentences.under("Promise 55");
        Sentences.holds("Saves everything that changes can change, in place of what was saved before.",
                CommandBounds::savedInPlace);
        Sentences.holds("Returns the number of towers.", () -> {
            Check.due("save without towers", new SmokeRelay().save(), 0);
            Check.due("save a full row", Bounds.fullRow().save(), 8);
        });
        Sentences.under("Promise 56");
        Sentences.holds("Restores what was saved last, which stays saved.", CommandBounds::staysSaved);
        Sentences.holds("Afterwards no change can be undone.", CommandBounds::noChangeAfterRestoring);
        Sentences.holds("Returns the number of towers.", CommandBounds::restoredTowers);
        Sentences.holds("Throws IllegalStateException if nothing was saved", CommandBounds::nothingSaved);
    }

    static void dueFailed(SmokeRelay relay, String text, int command) {
        Check.feedText(relay, text);
        Check.fails("'" + text + "'", UnsupportedOperationException.class, relay::execute);
        Check.due("failed command of '" + text + "'", relay.failedCommand(), command);
    }

    static void dueMalformed(SmokeRelay relay, String text, int position) {
        Check.feedText(relay, text);
        Check.fails("'" + text + "'", IllegalArgumentException.class, relay::execute);
        Check.due("error position of '" + text + "'", relay.errorPosition(), position);
    }

    private static void lengthOfTheBuffer() {
        SmokeRelay relay = new SmokeRelay();
        for (int length = 1; length <= 60; length++) {
            Check.due("feed", relay.feed('g'), length);
        }
    }

    private static void anyCharacter() {
        char[] characters = {(char) 0, '\n', ' ', ';', (char) 127, (char) 128, (char) 255, (char) 256, (char) 0xD800,
            (char) 0xFFFF};
        for (char character : characters) {
            SmokeRelay relay = new SmokeRelay();
            Check.due("feed " + (int) character, relay.feed(character), 1);
            Check.due("feed " + (int) character, relay.feed(character), 2);
            Check.fails("execute", IllegalArgumentException.class, relay::execute);
            Check.due("error position", relay.errorPosition(), 0);
        }
    }

    private static SmokeRelay full(String text) {
        SmokeRelay relay = new SmokeRelay();
        Check.feedText(relay, text);
        return relay;
    }

    private static void fullBuffer() {
        Bounds.refused("feed a full buffer", () -> full(EIGHT_COMMANDS), IllegalStateException.class,
                relay -> relay.feed('1'));
        SmokeRelay relay = full(FIVE_COMMANDS.substring(1));
        Check.due("feed the last one", relay.feed('x'), 60);
        for (int time = 0; time < 3; time++) {
            Check.fails("feed one more", IllegalStateException.class, () -> relay.feed('x'));
        }
        Check.fails("execute", IllegalArgumentException.class, relay::execute);
        Check.due("feed after executing", relay.feed('x'), 1);
    }

    /** What fails stands first, in the middle, and last. */
    private static void allCommandsOrNone() {
        for (String text : new String[] {"mood 9!1;wind 4;ground 2*2", "wind 4;mood 9!1;ground 2*2",
            "wind 4;ground 2*2;tower 9+9!3;mood 9!1", "ground 16*0;send 0>3:a;x", "wind 4;send 2>0:a", ""}) {
            SmokeRelay relay = inPieces();
            Check.feedText(relay, text);
            Check.due("'" + text + "' fails", Bounds.fails(relay::execute), true);
            dueSameRow(relay, inPieces());
        }
        SmokeRelay relay = inPieces();
        Check.due("all commands", Check.executeText(relay, "wind 4;ground 16*0;tower 9+9!3;mood 0!2;send 0>3:a"), 5);
        Check.due("wind", relay.wind(), 4);
        Check.due("ground", relay.ground(16), 0);
        Check.due("tower", relay.eye(4), 9);
        Check.due("mood", relay.mood(0), 2);
        Check.due("sent", relay.sent('a'), 1);
        relay.undo();
        dueSameRow(relay, inPieces());
    }

    /** Two pairs of towers with a hill between the pairs; five changes, so that one more can be seen. */
    private static SmokeRelay inPieces() {
        SmokeRelay relay = Bounds.rowOf(0, 6, 20, 26);
        relay.setGround(16, 9);
        return relay;
    }

    private static void dueSameRow(SmokeRelay relay, SmokeRelay untouched) {
        String[] kept = {"refusal", "error position", "failed command"};
        Check.dueText("the row", Asked.without(Asked.of(relay), kept), Asked.without(Asked.of(untouched), kept));
    }

    private static void bufferIsEmptyAfterwards() {
        SmokeRelay relay = Bounds.rowOf(0, 6);
        Check.due("execute", Check.executeText(relay, "wind 3;send 0>1:a"), 2);
        Check.due("feed after executing", relay.feed('w'), 1);
        dueMalformed(relay, "ind 3;", 7);
        Check.due("feed after a malformed text", relay.feed('m'), 1);
        dueFailed(relay, "ood 9!0", 0);
        Check.due("feed after a failed command", relay.feed('s'), 1);
        relay.setMood(0, 3);
        dueFailed(relay, "end 0>1:b", 0);
        Check.due("feed after a refusal", relay.feed('w'), 1);
        Check.due("the rest alone counts", Check.executeText(relay, "ind 9"), 1);
        dueMalformed(relay, "", 0);
    }

    private static void refusalOfACommand() {
        SmokeRelay relay = inPieces();
        dueFailed(relay, "wind 1;send 2>1:a", 1);
        Check.due("reason", relay.refusalReason(), SmokeRelay.NO_RELAY);
        Check.due("detail", relay.refusalDetail(), 2);
        dueFailed(relay, "mood 0!3;send 0>1:a;send 0>1:b", 2);
        Check.due("reason", relay.refusalReason(), SmokeRelay.GARBLED);
        Check.due("detail", relay.refusalDetail(), 1);
        dueFailed(relay, "send 0>4:a", 0);
        dueFailed(relay, "send 9>0:a", 0);
        Check.due("no refusal of a tower that is not there", relay.refusalReason(), SmokeRelay.GARBLED);
        dueFailed(relay, "ground 16*8;send 3>0:a;wind 1;send 0>9:a", 1);
        Check.due("reason", relay.refusalReason(), SmokeRelay.NO_RELAY);
        Check.due("detail", relay.refusalDetail(), 3);
        SmokeRelay unrefused = inPieces();
        dueFailed(unrefused, "send 0>4:a", 0);
        Check.fails("nothing was refused", NoSuchElementException.class, unrefused::refusalReason);
    }

    private static void fewestAndMostCommands() {
        SmokeRelay relay = new SmokeRelay();
        Check.due("one command", Check.executeText(relay, "wind 3"), 1);
        Check.due("eight commands", Check.executeText(relay, EIGHT_COMMANDS), 8);
        Check.due("wind", relay.wind(), 8);
        Check.due("five commands", Check.executeText(relay, FIVE_COMMANDS), 5);
        Check.due("changes", relay.undoCount(), 3);
    }

    private static void malformed() {
        SmokeRelay relay = Bounds.village();
        Check.fails("malformed at the end", IllegalArgumentException.class, relay::execute);
        Check.due("its error position", relay.errorPosition(), 5);
        dueMalformed(relay, "wind 5;mood 0!1;", 16);
        dueMalformed(relay, "mood 9!1;wind", 13);
        Check.due("the failed command stays", relay.failedCommand(), 1);
        dueMalformed(relay, "", 0);
        Check.dueText("the rest stays", Asked.without(Asked.of(relay), "error position", "input"),
                Asked.without(Asked.of(Bounds.village()), "error position", "input"));
    }

    private static void failingCommands() {
        String[] failing = {"ground 32*1", "ground 99*1", "tower 32+1!0", "tower 31+0!0", "tower 31+1!4",
            "tower 00+1!0", "tower 26+1!0", "mood 4!0", "mood 0!4", "mood 9!9", "send 4>0:a", "send 0>4:a",
            "send 0>2:a", "send 3>1:a"};
        for (String command : failing) {
            dueFailed(inPieces(), command, 0);
            dueFailed(inPieces(), "wind 1;" + command + ";wind 2", 1);
            dueFailed(inPieces(), "wind 1;wind 2;wind 3;wind 4;wind 5;" + command, 5);
        }
        dueFailed(inPieces(), "wind 1;wind 2;wind 3;wind 4;wind 5;wind 6;wind 7;mood 4!0", 7);
        dueFailed(Bounds.fullRow(), "tower 31+1!0", 0);
        for (String command : new String[] {"ground 31*9", "ground 0*0", "tower 31+9!3", "tower 1+1!0", "mood 3!3",
            "mood 0!0", "wind 9", "wind -9", "send 3>3:p", "send 0>1:a", "send 3>2:p"}) {
            Check.due("'" + command + "'", Check.executeText(inPieces(), command), 1);
        }
    }

    private static void latestErrorPosition() {
        SmokeRelay relay = new SmokeRelay();
        dueMalformed(relay, "wind 3;x", 7);
        dueMalformed(relay, "x", 0);
        dueMalformed(relay, "wind", 4);
        dueFailed(relay, "mood 0!0", 0);
        Check.due("after a failed command", relay.errorPosition(), 4);
        Check.due("execute", Check.executeText(relay, "wind 3"), 1);
        Check.due("after a good text", relay.errorPosition(), 4);
    }

    private static void noErrorPosition() {
        Bounds.refused("of a new object", SmokeRelay::new, NoSuchElementException.class, SmokeRelay::errorPosition);
        SmokeRelay relay = new SmokeRelay();
        Check.due("execute", Check.executeText(relay, "wind 3"), 1);
        dueFailed(relay, "wind 4;mood 0!0", 1);
        Check.fails("after a failed command", NoSuchElementException.class, relay::errorPosition);
    }

    private static void latestFailedCommand() {
        SmokeRelay relay = new SmokeRelay();
        dueFailed(relay, "wind 1;wind 2;mood 0!0", 2);
        dueFailed(relay, "mood 0!0", 0);
        dueFailed(relay, "wind 1;mood 0!0", 1);
        dueMalformed(relay, "wind 1;x", 7);
        Check.due("after a malformed text", relay.failedCommand(), 1);
        Check.due("execute", Check.executeText(relay, "wind 3"), 1);
        Check.due("after a good text", relay.failedCommand(), 1);
    }

    private static void noFailedCommand() {
        Bounds.refused("of a new object", SmokeRelay::new, NoSuchElementException.class, SmokeRelay::failedCommand);
        SmokeRelay relay = new SmokeRelay();
        Check.due("execute", Check.executeText(relay, "wind 3"), 1);
        dueMalformed(relay, "wind 4;mood", 11);
        Check.fails("after a malformed text", NoSuchElementException.class, relay::failedCommand);
        Check.fails("no such tower", IndexOutOfBoundsException.class, () -> relay.setMood(0, 0));
        Check.fails("after a call that failed", NoSuchElementException.class, relay::failedCommand);
    }

    /** What was undone is not undone again, and a new change takes its place. */
    private static void latestChange() {
        SmokeRelay relay = new SmokeRelay();
        for (int wind = 1; wind <= 4; wind++) {
            relay.setWind(wind);
        }
        relay.undo();
        relay.undo();
        Check.due("wind after two undone", relay.wind(), 2);
        relay.setWind(9);
        relay.undo();
        Check.due("wind after the new one", relay.wind(), 2);
        relay.undo();
        Check.due("wind after another", relay.wind(), 1);
        relay.undo();
        Check.due("wind after the first", relay.wind(), 0);
    }

    private static void changesLeft() {
        SmokeRelay relay = new SmokeRelay();
        relay.setWind(1);
        Check.due("undo the only change", relay.undo(), 0);
        for (int change = 0; change < 9; change++) {
            relay.setWind(change);
        }
        for (int left = 7; left >= 0; left--) {
            Check.due("undo", relay.undo(), left);
        }
    }

    private static void nothingToUndo() {
        Bounds.refused("undo of a new object", SmokeRelay::new, IllegalStateException.class, SmokeRelay::undo);
        SmokeRelay relay = new SmokeRelay();
        for (int change = 0; change < 10; change++) {
            relay.setWind(change);
        }
        for (int change = 0; change < 8; change++) {
            relay.undo();
        }
        Check.fails("undo of the ninth latest", IllegalStateException.class, relay::undo);
        Check.due("wind", relay.wind(), 1);
        relay.setWind(5);
        relay.save();
        relay.restore();
        Check.fails("undo after restoring", IllegalStateException.class, relay::undo);
        Check.due("wind", relay.wind(), 5);
    }

    private static void fewestAndMostChanges() {
        SmokeRelay relay = new SmokeRelay();
        for (int changes = 0; changes < 20; changes++) {
            Check.due("changes", relay.undoCount(), changes < 8 ? changes : 8);
            relay.setWind(changes % 9);
        }
        for (int left = 8; left > 0; left--) {
            Check.due("changes left", relay.undoCount(), left);
            relay.undo();
        }
        Check.due("changes at the end", relay.undoCount(), 0);
    }

    private static void savedInPlace() {
        SmokeRelay relay = Bounds.fullRow();
        relay.setMood(0, 3);
        relay.setGround(31, 9);
        relay.setWind(-9);
        String due = Asked.without(Asked.of(twice(relay)), "undo", "saved");
        SmokeRelay changed = Bounds.fullRow();
        changed.setMood(0, 3);
        changed.setGround(31, 9);
        changed.setWind(-9);
        twice(changed);
        Check.due("execute", Check.executeText(changed, "wind 9;ground 31*0;mood 0!0;send 0>1:p"), 4);
        changed.send(7, 7, 'a');
        changed.restore();
        Check.dueText("all that was saved", Asked.without(Asked.of(changed), "undo", "saved"), due);
        SmokeRelay replaced = Bounds.rowOf(5);
        replaced.save();
        replaced.undo();
        replaced.addTower(9, 7, 3);
        replaced.restore();
        Check.dueText("the tower that was saved", Check.output(replaced, replaced.writeTower(0)), "5+1!0");
    }

    /** Saves something else first. */
    private static SmokeRelay twice(SmokeRelay relay) {
        relay.setGround(7, 7);
        Check.due("saved towers", relay.save(), 8);
        relay.setGround(7, 2);
        Check.due("saved towers", relay.save(), 8);
        return relay;
    }

    private static void staysSaved() {
        SmokeRelay relay = Bounds.rowOf(3, 5);
        relay.save();
        for (int time = 0; time < 3; time++) {
            relay.setWind(7);
            relay.addTower(9, 1, 0);
            relay.send(0, 2, 'c');
            Check.due("restore", relay.restore(), 2);
            Check.due("wind", relay.wind(), 0);
            Check.due("sent", relay.sent('c'), 0);
            Check.due("count", relay.count(0), 0);
        }
        Check.due("restore at once", relay.restore(), 2);
    }

    private static void noChangeAfterRestoring() {
        SmokeRelay relay = Bounds.fullRow();
        relay.save();
        Check.due("changes after saving", relay.undoCount(), 8);
        relay.restore();
        Check.due("changes after restoring", relay.undoCount(), 0);
        Check.fails("undo", IllegalStateException.class, relay::undo);
        relay.setWind(4);
        Check.due("changes after one more", relay.undoCount(), 1);
        Check.due("undo", relay.undo(), 0);
        Check.fails("undo", IllegalStateException.class, relay::undo);
    }

    private static void restoredTowers() {
        SmokeRelay relay = new SmokeRelay();
        relay.save();
        for (int tower = 0; tower < 8; tower++) {
            relay.addTower(tower, 1, 0);
        }
        Check.due("restore no towers", relay.restore(), 0);
        Check.due("towers", relay.towerCount(), 0);
        SmokeRelay full = Bounds.fullRow();
        full.save();
        Check.due("restore a full row", full.restore(), 8);
    }

    private static void nothingSaved() {
        Bounds.refused("restore of a new object", SmokeRelay::new, IllegalStateException.class, SmokeRelay::restore);
        Bounds.refused("restore of a full row", Bounds::fullRow, IllegalStateException.class, SmokeRelay::restore);
        SmokeRelay relay = new SmokeRelay();
        relay.save();
        Bounds.taken("restore what is empty", relay::restore);
    }
}

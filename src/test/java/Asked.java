import java.util.NoSuchElementException;
import java.util.function.IntSupplier;

/** All that can be asked of an object, told as one text. It takes some 230 calls, and the object is used up by it. */
final class Asked {
    private Asked() {
    }

    static String of(SmokeRelay relay) {
        StringBuilder told = new StringBuilder();
        tellOutput(relay, told);
        told.append("\nrefusal ").append(kept(relay::refusalReason)).append(' ').append(kept(relay::refusalDetail));
        told.append("\nerror position ").append(kept(relay::errorPosition));
        told.append("\nfailed command ").append(kept(relay::failedCommand));
        tellRow(relay, told);
        tellInput(relay, told);
        tellUndo(relay, told);
        tellSaved(relay, told);
        return told.toString();
    }

    /** The same without the lines that begin with one of the names. */
    static String without(String told, String... names) {
        String rest = told;
        for (String name : names) {
            rest = rest.replaceAll("(?m)^" + name + ".*\n?", "");
        }
        return rest;
    }

    private static String kept(IntSupplier question) {
        try {
            return String.valueOf(question.getAsInt());
        } catch (NoSuchElementException e) {
            return "none";
        }
    }

    private static void tellOutput(SmokeRelay relay, StringBuilder told) {
        told.append("output ");
        try {
            for (int index = 0; index < 100; index++) {
                told.append(relay.outputCharacter(index));
            }
        } catch (IndexOutOfBoundsException e) {
            told.append('.');
        }
    }

    private static void tellRow(SmokeRelay relay, StringBuilder told) {
        told.append("\nwind ").append(relay.wind()).append("\nground ");
        for (int position = 0; position < 32; position++) {
            told.append(relay.ground(position));
        }
        for (int tower = 0; tower < relay.towerCount(); tower++) {
            told.append("\ntower ").append(relay.positionOf(tower)).append(' ').append(relay.eye(tower));
            told.append(' ').append(relay.mood(tower)).append(' ').append(relay.count(tower)).append(' ');
            for (int recency = relay.logLength(tower) - 1; recency >= 0; recency--) {
                told.append(relay.logLetter(tower, recency));
            }
        }
        told.append("\nsent");
        for (char letter = 'a'; letter <= 'p'; letter++) {
            told.append(' ').append(relay.sent(letter));
        }
    }

    /** No text goes on with a question mark, so its error position tells how far the text in the buffer was good. */
    private static void tellInput(SmokeRelay relay, StringBuilder told) {
        told.append("\ninput ");
        try {
            told.append(relay.feed('?'));
        } catch (IllegalStateException e) {
            told.append("full");
        }
        try {
            int commands = relay.execute();
            told.append(" of commands ").append(commands);
        } catch (IllegalArgumentException e) {
            told.append(" good up to ").append(relay.errorPosition());
        }
    }

    private static void tellUndo(SmokeRelay relay, StringBuilder told) {
        told.append("\nundo ").append(relay.undoCount());
        for (int left = relay.undoCount(); left > 0; left--) {
            told.append(", ").append(relay.undo()).append(' ').append(relay.towerCount());
            told.append(' ').append(relay.wind()).append(' ').append(relay.bestCost());
        }
    }

    private static void tellSaved(SmokeRelay relay, StringBuilder told) {
        told.append("\nsaved ");
        try {
            told.append(relay.restore()).append(' ').append(relay.wind()).append(' ').append(relay.bestCost());
        } catch (IllegalStateException e) {
            told.append("nothing");
        }
    }
}

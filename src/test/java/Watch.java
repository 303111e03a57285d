import java.util.ArrayList;
import java.util.List;

/**
 * All that can be seen of an object from outside, as lines, so that two objects can be compared. Looking uses
 * the object up: its ACTS are undone, its image is restored, its tape is read.
 */
final class Watch {
    private static final int[] ROWS = {0, 1, 6, 13, 163, 61035156, 244140624};
    /** Of how many ACTS the WORDS are looked at as they are undone: an object has 512 calls and no more. */
    private static final int LOOKED_AT = 4;
    private final KnockBook book;
    private final List<String> lines = new ArrayList<>();

    private Watch(KnockBook book) {
        this.book = book;
    }

    static List<String> all(KnockBook book) {
        Watch watch = new Watch(book);
        watch.lines.add("fault " + book.fault());
        watch.counts();
        watch.wordsAndDoors();
        watch.speech();
        watch.heard();
        watch.undoAll();
        watch.restored();
        watch.tape();
        return watch.lines;
    }

    private void counts() {
        for (int what = 0; what <= 10; what++) {
            lines.add("count " + what + " is " + book.count(what));
        }
    }

    private void wordsAndDoors() {
        int words = book.count(0);
        for (int word = 0; word < words; word++) {
            lines.add("word " + word + " is " + book.word(word, 0) + ", " + book.word(word, 2) + ", " + book.word(word, 3));
        }
        int doors = book.count(1);
        for (int door = 0; door < doors; door++) {
            lines.add("door " + door + " is " + book.door(door, 0) + ", " + book.door(door, 1) + ", " + book.door(door, 2));
        }
    }

    /** What may follow what can't be asked for itself. */
    private void speech() {
        for (int sounds = 1; sounds <= 12; sounds++) {
            lines.add("how many of " + sounds + ": " + book.howMany(sounds) + ", said: " + book.said(sounds));
        }
        for (int row : ROWS) {
            lines.add("row " + row + " by " + book.read(row, 1) + ", mended by " + book.mend(row));
        }
    }

    private void heard() {
        lines.add("which " + book.which() + ", listen " + book.listen(0) + ", " + book.listen(1));
    }

    private void undoAll() {
        for (int left = book.undo(); left != KnockBook.NONE; left = book.undo()) {
            lines.add(left + " left, worth " + book.count(3) + ", wet " + book.count(2));
            if (left < LOOKED_AT) {
                wordsAndDoors();
            }
        }
    }

    private void restored() {
        boolean restored = book.restore();
        lines.add("restored: " + restored);
        if (restored) {
            counts();
            heard();
            lines.add("acts of the image: " + book.undo());
        }
        wordsAndDoors();
    }

    private void tape() {
        lines.add("the tape as a book: " + book.book(book.count(7)) + ", fault at " + book.fault());
        wordsAndDoors();
    }
}

/** Promise 1, and the constants. */
public final class NewObjectTest {
    private static final Check CHECK = new Check();

    public static void main(String[] args) {
        constants();
        newObject();
        objectsShareNothing();
        CHECK.finish();
    }

    private static void constants() {
        CHECK.due("UNKNOWN", -1, EdgeVerses.UNKNOWN);
        CHECK.due("BAD_VALUE", -2, EdgeVerses.BAD_VALUE);
        CHECK.due("FULL", -3, EdgeVerses.FULL);
        CHECK.due("NOT_POSSIBLE", -4, EdgeVerses.NOT_POSSIBLE);
        CHECK.due("NONE", -5, EdgeVerses.NONE);
    }

    private static void newObject() {
        EdgeVerses verses = new EdgeVerses();
        int[] counts = {0, 1, 0, 0, 4, 10, 0, 0, 0, 1, 0, 0};
        for (int what = 0; what < counts.length; what++) {
            CHECK.due("new: count(" + what + ")", counts[what], verses.count(what));
        }
        int[] line = {0, 0, 0, 'a', 'a', 0};
        for (int what = 0; what < line.length; what++) {
            CHECK.due("new: line(0, " + what + ")", line[what], verses.line(0, what));
        }
        CHECK.due("new: line(1, 0)", EdgeVerses.UNKNOWN, verses.line(1, 0));
        CHECK.due("new: word(0, 0)", EdgeVerses.UNKNOWN, verses.word(0, 0));
        CHECK.due("new: poem", "/", Verses.poem(verses));
        CHECK.due("new: clearText()", 0, verses.clearText());
        CHECK.due("new: undo()", EdgeVerses.NONE, verses.undo());
        CHECK.due("new: restore(0)", EdgeVerses.NONE, verses.restore(0));
        CHECK.due("new: restore(1)", EdgeVerses.NONE, verses.restore(1));
    }

    private static void objectsShareNothing() {
        EdgeVerses one = Verses.withWords("a-'ba");
        EdgeVerses other = new EdgeVerses();
        one.setMetre(5, 7);
        one.keep(0);
        CHECK.due("other: count(0)", 0, other.count(0));
        CHECK.due("other: count(4)", 4, other.count(4));
        CHECK.due("other: restore(0)", EdgeVerses.NONE, other.restore(0));
        CHECK.due("other: undo()", EdgeVerses.NONE, other.undo());
    }
}

/** Promises 1 to 6: making an object, adding pieces, setting the width. */
public final class BuildingTest {
    public static void main(String[] args) {
        newObjectIsEmpty();
        constructorLimitsWidth();
        widthLimitsWidth();
        widthHoldsForPiecesBeforeAndAfter();
        wordTakesLengthsFrom1To20();
        lineBreakCountsPieces();
        openTakesIndentsFrom0To8();
        openTakesTwelveUnclosedGroups();
        closeNeedsAnUnclosedGroup();
        closeEndsTheLastUnclosedGroup();
        sixtyPiecesOfEachKind();
        Checks.end();
    }

    private static void newObjectIsEmpty() {
        PrettyStream x = new PrettyStream(40);
        Checks.due("new: rows", x.rows(), 1);
        Checks.due("new: widest", x.widest(), 0);
        Checks.due("new: row(0)", x.row(0), -1);
        Checks.due("new: column(0)", x.column(0), -1);
        Checks.due("new: flat(0)", x.flat(0), -1);
        Checks.due("new: close", x.close(), -1);
        Checks.due("new: first piece", x.word(1), 1);
    }

    // The group's reach is 1, 2, 99, 100 or 101, so its flatness tells the width that holds.
    private static final String REACH_1 = "(0 1";
    private static final String REACH_2 = "(0 1 /";
    private static final String REACH_99 = "(0 20 20 20 20 19";
    private static final String REACH_100 = "(0 20 20 20 20 20";
    private static final String REACH_101 = "(0 20 20 20 20 20 1";

    private static void constructorLimitsWidth() {
        int[] small = {1, 0, -1, -100, Integer.MIN_VALUE};
        for (int width : small) {
            Checks.due("new " + width + ": reach 1", Checks.made(width, REACH_1).flat(0), 1);
            Checks.due("new " + width + ": reach 2", Checks.made(width, REACH_2).flat(0), 0);
        }
        Checks.due("new 2: reach 2", Checks.made(2, REACH_2).flat(0), 1);
        Checks.due("new 99: reach 99", Checks.made(99, REACH_99).flat(0), 1);
        Checks.due("new 99: reach 100", Checks.made(99, REACH_100).flat(0), 0);
        int[] great = {100, 101, 1000, Integer.MAX_VALUE};
        for (int width : great) {
            Checks.due("new " + width + ": reach 100", Checks.made(width, REACH_100).flat(0), 1);
            Checks.due("new " + width + ": reach 101", Checks.made(width, REACH_101).flat(0), 0);
        }
    }

    private static void widthLimitsWidth() {
        int[] small = {1, 0, -1, -100, Integer.MIN_VALUE};
        for (int width : small) {
            Checks.due("width " + width + ": reach 1", flatAfterWidth(width, REACH_1), 1);
            Checks.due("width " + width + ": reach 2", flatAfterWidth(width, REACH_2), 0);
        }
        Checks.due("width 2: reach 2", flatAfterWidth(2, REACH_2), 1);
        Checks.due("width 99: reach 99", flatAfterWidth(99, REACH_99), 1);
        Checks.due("width 99: reach 100", flatAfterWidth(99, REACH_100), 0);
        int[] great = {100, 101, 1000, Integer.MAX_VALUE};
        for (int width : great) {
            Checks.due("width " + width + ": reach 100", flatAfterWidth(width, REACH_100), 1);
            Checks.due("width " + width + ": reach 101", flatAfterWidth(width, REACH_101), 0);
        }
    }

    private static int flatAfterWidth(int width, String text) {
        PrettyStream x = Checks.made(50, text);
        x.width(width);
        return x.flat(0);
    }

    private static void widthHoldsForPiecesBeforeAndAfter() {
        PrettyStream x = Checks.made(3, "(0 2 / 2 )");
        Checks.due("at 3: rows", x.rows(), 2);
        x.width(5);
        Checks.due("at 5: rows", x.rows(), 1);
        Checks.fill(x, "1");
        Checks.due("at 5 with a word behind: rows", x.rows(), 2);
        x.width(6);
        Checks.due("at 6 with a word behind: rows", x.rows(), 1);
        x.width(3);
        Checks.due("at 3 again: rows", x.rows(), 2);
    }

    private static void wordTakesLengthsFrom1To20() {
        PrettyStream x = new PrettyStream(40);
        int[] wrong = {0, -1, 21, 22, 1000, Integer.MIN_VALUE, Integer.MAX_VALUE};
        for (int length : wrong) {
            Checks.due("word(" + length + ")", x.word(length), -1);
        }
        Checks.due("widest behind refused words", x.widest(), 0);
        int sum = 0;
        for (int length = 1; length <= 20; length++) {
            Checks.due("word(" + length + ")", x.word(length), length);
            Checks.due("column of word " + length, x.column(length - 1), sum);
            sum += length;
            Checks.due("widest behind word " + length, x.widest(), sum);
        }
        Checks.due("words alone stay on one row", x.rows(), 1);
    }

    private static void lineBreakCountsPieces() {
        PrettyStream x = new PrettyStream(40);
        for (int count = 1; count <= 60; count++) {
            Checks.due("break " + count, x.lineBreak(), count);
            Checks.due("rows behind break " + count, x.rows(), count + 1);
        }
        Checks.due("break 61", x.lineBreak(), -1);
        Checks.due("rows behind a refused break", x.rows(), 61);
    }

    private static void openTakesIndentsFrom0To8() {
        int[] wrong = {-1, 9, 10, 1000, Integer.MIN_VALUE, Integer.MAX_VALUE};
        PrettyStream x = new PrettyStream(1);
        for (int indent : wrong) {
            Checks.due("open(" + indent + ")", x.open(indent), -1);
        }
        Checks.due("close behind refused opens", x.close(), -1);
        for (int indent = 0; indent <= 8; indent++) {
            PrettyStream y = new PrettyStream(1);
            Checks.due("open(" + indent + ")", y.open(indent), 1);
            Checks.fill(y, "2 / 2");
            Checks.due("indent " + indent, y.column(3), indent);
        }
    }

    private static void openTakesTwelveUnclosedGroups() {
        PrettyStream x = new PrettyStream(40);
        for (int count = 1; count <= 12; count++) {
            Checks.due("open " + count, x.open(1), count);
        }
        Checks.due("open 13", x.open(1), -1);
        Checks.due("open 13 again", x.open(0), -1);
        Checks.due("a word inside twelve groups", x.word(1), 13);
        Checks.due("close one of twelve", x.close(), 14);
        Checks.due("open behind a close", x.open(1), 15);
        Checks.due("open again at twelve", x.open(1), -1);
        for (int count = 1; count <= 12; count++) {
            Checks.due("close " + count, x.close(), 15 + count);
        }
        Checks.due("close 13", x.close(), -1);
        // Closed groups do not count: more than twelve in a document are fine.
        Checks.due("open behind all closes", x.open(0), 28);
    }

    private static void closeNeedsAnUnclosedGroup() {
        PrettyStream x = new PrettyStream(40);
        Checks.due("close of nothing", x.close(), -1);
        Checks.fill(x, "3 /");
        Checks.due("close behind a word and a break", x.close(), -1);
        Checks.due("open", x.open(2), 3);
        Checks.due("close", x.close(), 4);
        Checks.due("close twice", x.close(), -1);
        Checks.due("next piece", x.word(1), 5);
    }

    private static void closeEndsTheLastUnclosedGroup() {
        PrettyStream x = Checks.made(1, "(1 (2 (4 2 / 2 ) / 2 ) (8 / 2 ) / 2 ) / 2");
        Checks.due("in three groups", x.column(5), 7);
        Checks.due("behind the first close", x.column(8), 3);
        Checks.due("in a group opened behind two closes", x.column(12), 9);
        Checks.due("behind that group", x.column(15), 1);
        Checks.due("behind all groups", x.column(18), 0);
    }

    private static void sixtyPiecesOfEachKind() {
        PrettyStream x = new PrettyStream(40);
        for (int count = 1; count <= 58; count++) {
            Checks.due("word " + count, x.word(1), count);
        }
        Checks.due("open as piece 59", x.open(0), 59);
        Checks.due("open as piece 60", x.open(0), 60);
        Checks.due("word as piece 61", x.word(1), -1);
        Checks.due("break as piece 61", x.lineBreak(), -1);
        Checks.due("open as piece 61", x.open(0), -1);
        Checks.due("close as piece 61", x.close(), -1);
        Checks.due("column of the last piece", x.column(59), 58);
        Checks.due("column of none", x.column(60), -1);

        PrettyStream y = new PrettyStream(40);
        for (int pair = 1; pair <= 30; pair++) {
            Checks.due("open of pair " + pair, y.open(0), 2 * pair - 1);
            Checks.due("close of pair " + pair, y.close(), 2 * pair);
        }
        Checks.due("open behind thirty pairs", y.open(0), -1);
        Checks.due("close behind thirty pairs", y.close(), -1);
    }
}

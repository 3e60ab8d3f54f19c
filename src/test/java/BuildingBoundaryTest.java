/** The boundary cases of the promises 1 to 6, sentence by sentence, each on both sides. */
public final class BuildingBoundaryTest {
    // Numbers that a narrower type, or a sum that wraps around, would take for a small one.
    private static final int[] FAR_BELOW = {
        -1, -20, -128, -255, -256, -65535, -65536, Integer.MIN_VALUE + 1, Integer.MIN_VALUE};
    private static final int[] FAR_ABOVE = {
        127, 128, 255, 256, 257, 261, 32767, 65536, 65537, 65541, Integer.MAX_VALUE - 1, Integer.MAX_VALUE};

    public static void main(String[] args) {
        newWidthTooSmall();
        newWidthTooLarge();
        newWidthAsGiven();
        newDocumentIsEmpty();
        wordAnswersTheNumberOfPieces();
        wordTooShortOrTooLong();
        wordAt60Pieces();
        lineBreakAnswersTheNumberOfPieces();
        lineBreakAt60Pieces();
        openAnswersTheNumberOfPieces();
        openWithAWrongIndent();
        openAt60Pieces();
        openAtTwelveGroups();
        openCountsOnlyGroupsWithoutAClose();
        closeAnswersTheNumberOfPieces();
        closeAt60Pieces();
        closeWithoutAGroup();
        widthTooSmall();
        widthTooLarge();
        widthAsGiven();
        widthLeavesThePieces();
        Checks.end();
    }

    /** Its one group has the given reach, so its flatness tells whether the width is at least that. */
    private static PrettyStream withReach(int width, int reach) {
        PrettyStream x = Checks.made(width, "(0");
        for (int rest = reach; rest > 0; rest -= 20) {
            x.word(rest < 20 ? rest : 20);
        }
        return x;
    }

    private static void newHolds(int given, int held) {
        Checks.due("new " + given + ": reach " + held, withReach(given, held).flat(0), 1);
        Checks.due("new " + given + ": reach " + (held + 1), withReach(given, held + 1).flat(0), 0);
    }

    private static void widthHolds(int given, int held) {
        for (int before : new int[] {1, 50, 100}) {
            PrettyStream fits = withReach(before, held);
            fits.width(given);
            Checks.due("width " + given + ": reach " + held, fits.flat(0), 1);
            PrettyStream over = withReach(before, held + 1);
            over.width(given);
            Checks.due("width " + given + ": reach " + (held + 1), over.flat(0), 0);
        }
    }

    private static void newWidthTooSmall() {
        Checks.sentence("Promise 1: width: less than 1 becomes 1");
        newHolds(0, 1);
        newHolds(1, 1);
        newHolds(2, 2);
        for (int width : FAR_BELOW) {
            newHolds(width, 1);
        }
    }

    private static void newWidthTooLarge() {
        Checks.sentence("Promise 1: width: more than 100 becomes 100");
        newHolds(99, 99);
        newHolds(100, 100);
        newHolds(101, 100);
        for (int width : FAR_ABOVE) {
            newHolds(width, 100);
        }
    }

    private static void newWidthAsGiven() {
        Checks.sentence("Promise 1: PrettyStream(int width)");
        for (int width = 1; width <= 100; width++) {
            newHolds(width, width);
        }
    }

    private static void newDocumentIsEmpty() {
        Checks.sentence("Promise 1: the document is empty");
        for (int width : new int[] {Integer.MIN_VALUE, 0, 1, 40, 100, 101, Integer.MAX_VALUE}) {
            PrettyStream x = new PrettyStream(width);
            Checks.due("rows()", x.rows(), 1);
            Checks.due("widest()", x.widest(), 0);
            Checks.at(x, 0, -1, -1);
            Checks.due("flat(0)", x.flat(0), -1);
            Checks.due("leastWidth(0)", x.leastWidth(0), 101);
            Checks.due("leastWidth(1)", x.leastWidth(1), 1);
            Checks.due("close()", x.close(), -1);
            Checks.due("open(8)", x.open(8), 1);
            Checks.at(x, 0, 0, 0);
            Checks.due("flat(0) of the open", x.flat(0), 1);
        }
        PrettyStream one = Checks.made(40, "5 / (1");
        PrettyStream other = new PrettyStream(40);
        Checks.due("pieces of another object", other.word(1), 1);
        Checks.due("pieces of the first object", one.word(1), 4);
    }

    private static void wordAnswersTheNumberOfPieces() {
        Checks.sentence("Promise 2: answers the number of pieces then");
        PrettyStream x = new PrettyStream(40);
        Checks.due("the first", x.word(1), 1);
        Checks.due("the second", x.word(20), 2);
        Checks.fill(x, "/ (0 )");
        Checks.due("behind other pieces", x.word(20), 6);
        Checks.due("the seventh", x.word(1), 7);
        Checks.at(x, 1, 0, 1);
        Checks.at(x, 5, 1, 0);
        Checks.at(x, 6, 1, 20);
        Checks.due("widest", x.widest(), 21);
    }

    private static void wordTooShortOrTooLong() {
        Checks.sentence("Promise 2: -1, and changes nothing, if length is not from 1 to 20");
        PrettyStream x = new PrettyStream(40);
        Checks.due("word(0)", x.word(0), -1);
        Checks.due("word(21)", x.word(21), -1);
        for (int length : FAR_BELOW) {
            Checks.due("word(" + length + ")", x.word(length), -1);
        }
        for (int length : FAR_ABOVE) {
            Checks.due("word(" + length + ")", x.word(length), -1);
        }
        Checks.due("widest of nothing", x.widest(), 0);
        Checks.at(x, 0, -1, -1);
        for (int length = 1; length <= 20; length++) {
            Checks.due("word(" + length + ")", x.word(length), length);
        }
        Checks.due("widest of all lengths", x.widest(), 210);
        Checks.due("word(0) behind words", x.word(0), -1);
        Checks.due("word(21) behind words", x.word(21), -1);
        Checks.due("widest still", x.widest(), 210);
        Checks.at(x, 20, -1, -1);
    }

    private static void wordAt60Pieces() {
        Checks.sentence("Promise 2: -1, and changes nothing, if there are 60 pieces");
        PrettyStream x = new PrettyStream(40);
        for (int count = 1; count <= 60; count++) {
            Checks.due("word " + count, x.word(20), count);
        }
        Checks.due("widest", x.widest(), 1200);
        for (int length = 0; length <= 21; length++) {
            Checks.due("word(" + length + ") at 60", x.word(length), -1);
        }
        Checks.due("widest still", x.widest(), 1200);
        Checks.at(x, 59, 0, 1180);
        Checks.at(x, 60, -1, -1);
    }

    private static void lineBreakAnswersTheNumberOfPieces() {
        Checks.sentence("Promise 3: answers the number of pieces then");
        PrettyStream x = new PrettyStream(40);
        Checks.due("the first", x.lineBreak(), 1);
        Checks.due("rows", x.rows(), 2);
        Checks.due("the second", x.lineBreak(), 2);
        Checks.due("rows of two", x.rows(), 3);
        Checks.fill(x, "3 (0 )");
        Checks.due("behind other pieces", x.lineBreak(), 6);
        Checks.due("rows of three", x.rows(), 4);
    }

    private static void lineBreakAt60Pieces() {
        Checks.sentence("Promise 3: -1 if there are 60");
        PrettyStream x = new PrettyStream(40);
        for (int count = 1; count <= 59; count++) {
            Checks.due("break " + count, x.lineBreak(), count);
        }
        Checks.due("rows of 59", x.rows(), 60);
        Checks.due("break 60", x.lineBreak(), 60);
        Checks.due("rows of 60", x.rows(), 61);
        Checks.due("break 61", x.lineBreak(), -1);
        Checks.due("break 61 again", x.lineBreak(), -1);
        Checks.due("rows still", x.rows(), 61);
        Checks.at(x, 59, 59, 0);
        Checks.at(x, 60, -1, -1);
    }

    private static void openAnswersTheNumberOfPieces() {
        Checks.sentence("Promise 4: answers the number of pieces then");
        PrettyStream x = new PrettyStream(40);
        Checks.due("the first", x.open(0), 1);
        Checks.due("the second", x.open(8), 2);
        Checks.fill(x, "3 / )");
        Checks.due("behind other pieces", x.open(4), 6);
        Checks.due("it is an open", x.flat(5), 1);
        Checks.due("nothing behind it", x.flat(6), -1);
    }

    private static void openWithAWrongIndent() {
        Checks.sentence("Promise 4: -1, and changes nothing, if indent is not from 0 to 8");
        PrettyStream x = new PrettyStream(1);
        Checks.due("open(9)", x.open(9), -1);
        for (int indent : FAR_BELOW) {
            Checks.due("open(" + indent + ")", x.open(indent), -1);
        }
        for (int indent : FAR_ABOVE) {
            Checks.due("open(" + indent + ")", x.open(indent), -1);
        }
        Checks.due("no group is there", x.close(), -1);
        Checks.due("no piece is there", x.flat(0), -1);
        for (int indent = 0; indent <= 8; indent++) {
            PrettyStream y = new PrettyStream(1);
            Checks.due("open(" + indent + ")", y.open(indent), 1);
            Checks.due("open(-1) behind it", y.open(-1), -1);
            Checks.due("open(9) behind it", y.open(9), -1);
            Checks.fill(y, "2 / 2");
            Checks.at(y, 3, 1, indent);
            Checks.due("one close", y.close(), 5);
            Checks.due("and no other", y.close(), -1);
        }
        // Refused opens are not among the twelve.
        for (int count = 1; count <= 12; count++) {
            Checks.due("open(9) before " + count, x.open(9), -1);
            Checks.due("open " + count, x.open(8), count);
        }
    }

    private static void openAt60Pieces() {
        Checks.sentence("Promise 4: -1, and changes nothing, if there are 60 pieces");
        PrettyStream x = new PrettyStream(100);
        for (int count = 1; count <= 59; count++) {
            Checks.due("word " + count, x.word(1), count);
        }
        Checks.due("open as 60", x.open(8), 60);
        Checks.due("flat(59)", x.flat(59), 1);
        for (int indent = -1; indent <= 9; indent++) {
            Checks.due("open(" + indent + ") at 60", x.open(indent), -1);
        }
        Checks.due("flat(59) still", x.flat(59), 1);
        Checks.due("flat(60)", x.flat(60), -1);
    }

    private static void openAtTwelveGroups() {
        Checks.sentence("Promise 4: -1, and changes nothing, if 12 groups have no close yet");
        PrettyStream x = new PrettyStream(1);
        for (int count = 1; count <= 11; count++) {
            Checks.due("open " + count, x.open(1), count);
        }
        Checks.due("open 12", x.open(1), 12);
        Checks.due("open 13", x.open(1), -1);
        Checks.due("open 13 with 0", x.open(0), -1);
        Checks.due("open 13 with 8", x.open(8), -1);
        Checks.due("open 13 with 9", x.open(9), -1);
        Checks.due("flat(12)", x.flat(12), -1);
        Checks.fill(x, "2 / 1");
        Checks.at(x, 14, 1, 12);
        Checks.due("open with pieces between", x.open(1), -1);
        for (int count = 1; count <= 12; count++) {
            Checks.due("close " + count, x.close(), 15 + count);
        }
        Checks.due("close 13", x.close(), -1);
    }

    private static void openCountsOnlyGroupsWithoutAClose() {
        Checks.sentence("Promise 4: (12 groups have) no close yet");
        PrettyStream x = new PrettyStream(40);
        for (int pair = 1; pair <= 12; pair++) {
            Checks.fill(x, "(1 )");
        }
        for (int count = 1; count <= 12; count++) {
            Checks.due("open " + count + " behind 12 pairs", x.open(1), 24 + count);
        }
        Checks.due("open 13", x.open(1), -1);
        Checks.due("close 1", x.close(), 37);
        Checks.due("open in its stead", x.open(1), 38);
        Checks.due("open 13 again", x.open(1), -1);
        Checks.due("close 1", x.close(), 39);
        Checks.due("close 2", x.close(), 40);
        Checks.due("open 11", x.open(1), 41);
        Checks.due("open 12", x.open(1), 42);
        Checks.due("open 13 once more", x.open(1), -1);
    }

    private static void closeAnswersTheNumberOfPieces() {
        Checks.sentence("Promise 5: answers the number of pieces then");
        PrettyStream x = Checks.made(40, "(0 (0");
        Checks.due("the inner one", x.close(), 3);
        Checks.fill(x, "3 /");
        Checks.due("the outer one", x.close(), 6);
        Checks.at(x, 2, 0, 0);
        Checks.at(x, 5, 0, 4);
        Checks.at(x, 6, -1, -1);
    }

    private static void closeAt60Pieces() {
        Checks.sentence("Promise 5: -1, and changes nothing, if there are 60 pieces");
        PrettyStream x = Checks.made(40, "(3 (3");
        for (int count = 3; count <= 59; count++) {
            Checks.due("break " + count, x.lineBreak(), count);
        }
        Checks.due("close as 60", x.close(), 60);
        Checks.due("close as 61, one group without a close", x.close(), -1);
        Checks.due("close as 61 again", x.close(), -1);
        Checks.at(x, 59, 57, 6);
        Checks.at(x, 60, -1, -1);
        Checks.due("rows", x.rows(), 58);
        PrettyStream none = new PrettyStream(40);
        for (int count = 1; count <= 60; count++) {
            Checks.due("word " + count, none.word(1), count);
        }
        Checks.due("close as 61, no group", none.close(), -1);
    }

    private static void closeWithoutAGroup() {
        Checks.sentence("Promise 5: -1, and changes nothing, if no group is without a close");
        PrettyStream x = new PrettyStream(1);
        Checks.due("in an empty document", x.close(), -1);
        Checks.fill(x, "3 /");
        Checks.due("behind a word and a break", x.close(), -1);
        Checks.at(x, 2, -1, -1);
        Checks.due("open", x.open(5), 3);
        Checks.due("close", x.close(), 4);
        Checks.due("close again", x.close(), -1);
        Checks.due("close once more", x.close(), -1);
        Checks.at(x, 4, -1, -1);
        // The refused closes took nothing from the count of groups: twelve are free, and no more.
        for (int count = 1; count <= 12; count++) {
            Checks.due("open " + count, x.open(1), 4 + count);
        }
        Checks.due("open 13", x.open(1), -1);
        Checks.fill(x, "2 / 1");
        Checks.at(x, 18, 2, 12);
    }

    private static void widthTooSmall() {
        Checks.sentence("Promise 6: (as in the constructor) less than 1 becomes 1");
        widthHolds(0, 1);
        widthHolds(1, 1);
        widthHolds(2, 2);
        for (int width : FAR_BELOW) {
            widthHolds(width, 1);
        }
    }

    private static void widthTooLarge() {
        Checks.sentence("Promise 6: (as in the constructor) more than 100 becomes 100");
        widthHolds(99, 99);
        widthHolds(100, 100);
        widthHolds(101, 100);
        for (int width : FAR_ABOVE) {
            widthHolds(width, 100);
        }
    }

    private static void widthAsGiven() {
        Checks.sentence("Promise 6: sets the width");
        for (int width = 1; width <= 100; width++) {
            widthHolds(width, width);
        }
        PrettyStream x = new PrettyStream(1);
        x.width(100);
        x.width(5);
        Checks.fill(x, "(0 2 / 2");
        Checks.due("set before the pieces, 5 of 5", x.flat(0), 1);
        Checks.fill(x, "1");
        Checks.due("set before the pieces, 6 of 5", x.flat(0), 0);
    }

    private static void widthLeavesThePieces() {
        Checks.sentence("Promise 6: sets the width (and nothing else)");
        PrettyStream x = Checks.made(40, "(3 2 / (4");
        for (int width : new int[] {Integer.MIN_VALUE, 0, 1, 100, 101, Integer.MAX_VALUE, 1}) {
            x.width(width);
        }
        Checks.due("the next piece", x.word(2), 5);
        Checks.fill(x, "/ 1");
        Checks.at(x, 6, 2, 7);
        Checks.due("close the inner group", x.close(), 8);
        Checks.due("close the outer group", x.close(), 9);
        Checks.due("close none", x.close(), -1);
    }
}

/** The boundary cases of the promises 7 to 12, sentence by sentence, each on both sides. */
public final class AnswerBoundaryTest {
    private static final int[] FAR = {
        -1, -2, -60, -128, -256, -65536, Integer.MIN_VALUE, Integer.MIN_VALUE + 1,
        60, 61, 64, 128, 256, 257, 512, 65536, 65537, Integer.MAX_VALUE - 1, Integer.MAX_VALUE};

    public static void main(String[] args) {
        rowOfEachKind();
        rowOfNone();
        columnOfEachKind();
        columnOfNone();
        flatOfFlatAndBroken();
        flatOfNoOpen();
        flatOfNone();
        rowsAtTheEnd();
        rowsOfAnEmptyDocument();
        widestOfAnEmptyDocument();
        widestBehindAWord();
        widestBehindAFlatBreak();
        widestAtAMargin();
        widestAnywhere();
        leastWidthFrom1();
        leastWidthTo100();
        leastWidthForAtMostRows();
        leastWidthOfNone();
        leastWidthIsTheLeast();
        leastWidthOfAnEmptyDocument();
        leastWidthLeavesTheWidth();
        answersUpToTheLastCall();
        Checks.end();
    }

    // At 6 both groups are broken, so that pieces of every kind stand on later rows too.
    private static final String MIXED = "2 (3 / 2 (1 3 / 2 ) ) / 1";

    private static void rowOfEachKind() {
        Checks.sentence("Promise 7: the row at which the piece stands (of an open or close: there)");
        int[] due = {0, 0, 0, 1, 1, 1, 1, 2, 2, 2, 2, 3};
        PrettyStream x = Checks.made(6, MIXED);
        for (int piece = 0; piece < due.length; piece++) {
            Checks.due("row(" + piece + ")", x.row(piece), due[piece]);
        }
        Checks.due("row(12)", x.row(12), -1);
    }

    private static void rowOfNone() {
        Checks.sentence("Promise 7: -1 if there is none");
        PrettyStream x = new PrettyStream(40);
        Checks.due("row(0) of none", x.row(0), -1);
        for (int count = 1; count <= 60; count++) {
            Checks.due("break " + count, x.lineBreak(), count);
            Checks.due("row(-1)", x.row(-1), -1);
            Checks.due("row(0)", x.row(0), 0);
            Checks.due("the last row", x.row(count - 1), count - 1);
            Checks.due("row(" + count + ")", x.row(count), -1);
        }
        for (int piece : FAR) {
            Checks.due("row(" + piece + ")", x.row(piece), -1);
        }
    }

    private static void columnOfEachKind() {
        Checks.sentence("Promise 8: the column at which the piece stands (of an open or close: there)");
        int[] due = {0, 2, 2, 3, 5, 5, 8, 4, 6, 6, 6, 0};
        PrettyStream x = Checks.made(6, MIXED);
        for (int piece = 0; piece < due.length; piece++) {
            Checks.due("column(" + piece + ")", x.column(piece), due[piece]);
        }
        Checks.due("column(12)", x.column(12), -1);
    }

    private static void columnOfNone() {
        Checks.sentence("Promise 8: -1 if there is none");
        PrettyStream x = new PrettyStream(40);
        Checks.due("column(0) of none", x.column(0), -1);
        for (int count = 1; count <= 60; count++) {
            Checks.due("word " + count, x.word(20), count);
            Checks.due("column(-1)", x.column(-1), -1);
            Checks.due("column(0)", x.column(0), 0);
            Checks.due("the last column", x.column(count - 1), 20 * (count - 1));
            Checks.due("column(" + count + ")", x.column(count), -1);
        }
        for (int piece : FAR) {
            Checks.due("column(" + piece + ")", x.column(piece), -1);
        }
    }

    private static void flatOfFlatAndBroken() {
        Checks.sentence("Promise 9: 1 if the piece is the open of a flat group, 0 if of a broken one");
        PrettyStream x = Checks.made(6, "2 (1 / (1 3 / 2 ) ) / 1");
        Checks.due("outer at 6", x.flat(1), 0);
        Checks.due("inner at 6", x.flat(3), 0);
        x.width(7);
        Checks.due("outer at 7", x.flat(1), 0);
        Checks.due("inner at 7", x.flat(3), 1);
        x.width(8);
        Checks.due("outer at 8", x.flat(1), 0);
        Checks.due("inner at 8", x.flat(3), 1);
        x.width(9);
        Checks.due("outer at 9", x.flat(1), 1);
        Checks.due("inner at 9", x.flat(3), 1);
    }

    private static void flatOfNoOpen() {
        Checks.sentence("Promise 9: -1 if the piece is no open");
        PrettyStream x = Checks.made(100, "(0 1 / ) 1 / (0");
        for (int width : new int[] {1, 100}) {
            x.width(width);
            Checks.due("of an open", x.flat(0) >= 0 ? 1 : 0, 1);
            Checks.due("of a word in a group", x.flat(1), -1);
            Checks.due("of a break in a group", x.flat(2), -1);
            Checks.due("of a close", x.flat(3), -1);
            Checks.due("of a word", x.flat(4), -1);
            Checks.due("of a break", x.flat(5), -1);
            Checks.due("of an open at the end", x.flat(6), 1);
        }
    }

    private static void flatOfNone() {
        Checks.sentence("Promise 9: -1 if there is none");
        PrettyStream x = new PrettyStream(40);
        Checks.due("flat(0) of none", x.flat(0), -1);
        for (int pair = 0; pair < 30; pair++) {
            Checks.due("open of pair " + pair, x.open(8), 2 * pair + 1);
            Checks.due("the last open", x.flat(2 * pair), 1);
            Checks.due("behind the last open", x.flat(2 * pair + 1), -1);
            Checks.due("close of pair " + pair, x.close(), 2 * pair + 2);
            Checks.due("the last open, closed", x.flat(2 * pair), 1);
            Checks.due("behind the last close", x.flat(2 * pair + 2), -1);
        }
        for (int piece : FAR) {
            Checks.due("flat(" + piece + ")", x.flat(piece), -1);
        }
    }

    private static void rowsAtTheEnd() {
        Checks.sentence("Promise 10: one more than the row at the end of the document");
        Checks.due("no break", Checks.made(1, "20 20 20 20 20 20").rows(), 1);
        Checks.due("a break and a word", Checks.made(40, "1 / 1").rows(), 2);
        Checks.due("a break at the end", Checks.made(40, "1 /").rows(), 2);
        Checks.due("two breaks at the end", Checks.made(40, "1 / /").rows(), 3);
        Checks.due("a break alone", Checks.made(40, "/").rows(), 2);
        Checks.due("a flat break at the end", Checks.made(2, "(0 1 /").rows(), 1);
        Checks.due("a broken break at the end", Checks.made(1, "(0 1 /").rows(), 2);
        Checks.due("flat and broken ones", Checks.made(3, "(0 1 / 1 ) / (0 1 / 2 )").rows(), 3);
    }

    private static void rowsOfAnEmptyDocument() {
        Checks.sentence("Promise 10: (the number of rows of an empty document)");
        PrettyStream x = new PrettyStream(1);
        Checks.due("no piece", x.rows(), 1);
        Checks.fill(x, "(8 )");
        Checks.due("an empty group", x.rows(), 1);
        Checks.fill(x, "20");
        Checks.due("a word", x.rows(), 1);
        Checks.fill(x, "/");
        Checks.due("a break", x.rows(), 2);
    }

    private static void widestOfAnEmptyDocument() {
        Checks.sentence("Promise 11: (the greatest column of an empty document)");
        PrettyStream x = new PrettyStream(100);
        Checks.due("no piece", x.widest(), 0);
        Checks.fill(x, "(8 )");
        Checks.due("an empty group", x.widest(), 0);
        Checks.fill(x, "/");
        Checks.due("a break", x.widest(), 0);
        Checks.fill(x, "1");
        Checks.due("a word", x.widest(), 1);
    }

    private static void widestBehindAWord() {
        Checks.sentence("Promise 11: the greatest column that is reached (behind a word)");
        Checks.due("one word", Checks.made(1, "20").widest(), 20);
        Checks.due("two words", Checks.made(1, "20 1").widest(), 21);
        Checks.due("a word and a break", Checks.made(1, "20 /").widest(), 20);
        Checks.due("a word and the ends of a group", Checks.made(1, "20 (8 )").widest(), 20);
    }

    private static void widestBehindAFlatBreak() {
        Checks.sentence("Promise 11: the greatest column that is reached (behind a flat break)");
        PrettyStream x = Checks.made(6, "(0 5 /");
        Checks.due("flat", x.widest(), 6);
        x.width(5);
        Checks.due("broken", x.widest(), 5);
    }

    // The document says that the column becomes the margin, so the margin is reached, word or no word.
    private static void widestAtAMargin() {
        Checks.sentence("Promise 11: the greatest column that is reached (a margin)");
        Checks.due("at the end, below", Checks.made(1, "(8 7 /").widest(), 8);
        Checks.due("at the end, equal", Checks.made(1, "(8 8 /").widest(), 8);
        Checks.due("at the end, above", Checks.made(1, "(8 9 /").widest(), 9);
        Checks.due("before a break", Checks.made(1, "(8 2 / / ) / 1").widest(), 8);
        Checks.due("before a close and a break", Checks.made(1, "(8 2 / ) / 1").widest(), 8);
        Checks.due("of a flat group", Checks.made(3, "(8 2 /").widest(), 3);
        Checks.due("of a group without a break", Checks.made(1, "(8 2 ) / 1").widest(), 2);
        PrettyStream x = new PrettyStream(1);
        for (int depth = 1; depth <= 12; depth++) {
            Checks.due("open " + depth, x.open(8), depth);
        }
        Checks.fill(x, "20 /");
        Checks.due("of twelve groups", x.widest(), 96);
        x.width(21);
        Checks.due("of twelve flat groups", x.widest(), 21);
    }

    private static void widestAnywhere() {
        Checks.sentence("Promise 11: the greatest column that is reached anywhere");
        Checks.due("on the first row", Checks.made(1, "7 / 2 / 3").widest(), 7);
        Checks.due("on a row between", Checks.made(1, "2 / 7 / 3").widest(), 7);
        Checks.due("on the last row", Checks.made(1, "2 / 3 / 7").widest(), 7);
        PrettyStream x = new PrettyStream(1);
        for (int count = 1; count <= 60; count++) {
            x.word(20);
        }
        Checks.due("far beyond the width", x.widest(), 1200);
        Checks.due("less than the width", Checks.made(100, "7 / 2").widest(), 7);
    }

    private static void leastWidthFrom1() {
        Checks.sentence("Promise 12: the least width from 1");
        Checks.due("a reach of 1", Checks.made(40, "(0 /").leastWidth(1), 1);
        Checks.due("a reach of 2", Checks.made(40, "(0 1 /").leastWidth(1), 2);
        Checks.due("a reach of 3", Checks.made(40, "(0 2 /").leastWidth(1), 3);
    }

    private static void leastWidthTo100() {
        Checks.sentence("Promise 12: the least width to 100; 101 if there is none");
        Checks.due("a reach of 99", Checks.made(40, "(0 20 20 20 20 18 /").leastWidth(1), 99);
        Checks.due("a reach of 100", Checks.made(40, "(0 20 20 20 20 19 /").leastWidth(1), 100);
        Checks.due("a reach of 101", Checks.made(40, "(0 20 20 20 20 20 /").leastWidth(1), 101);
        Checks.due("a reach of 102", Checks.made(40, "(0 20 20 20 20 20 1 /").leastWidth(1), 101);
    }

    private static void leastWidthForAtMostRows() {
        Checks.sentence("Promise 12: for which the document has at most rows rows");
        PrettyStream x = Checks.made(40, "(0 1 / (0 1 / 1 ) )");
        Checks.due("4 rows", x.leastWidth(4), 1);
        Checks.due("3 rows", x.leastWidth(3), 1);
        Checks.due("2 rows", x.leastWidth(2), 3);
        Checks.due("1 row", x.leastWidth(1), 5);
        Checks.due("0 rows", x.leastWidth(0), 101);
        int[] many = {61, 100, 256, 65536, Integer.MAX_VALUE - 1, Integer.MAX_VALUE};
        for (int rows : many) {
            Checks.due(rows + " rows", x.leastWidth(rows), 1);
        }
    }

    private static void leastWidthOfNone() {
        Checks.sentence("Promise 12: 101 if there is none");
        PrettyStream x = new PrettyStream(40);
        for (int count = 1; count <= 60; count++) {
            Checks.due("break " + count, x.lineBreak(), count);
            Checks.due("too few rows", x.leastWidth(count), 101);
            Checks.due("enough rows", x.leastWidth(count + 1), 1);
        }
        int[] few = {0, -1, -2, -256, -65536, Integer.MIN_VALUE + 1, Integer.MIN_VALUE};
        for (int rows : few) {
            Checks.due(rows + " rows", x.leastWidth(rows), 101);
            Checks.due(rows + " rows of one word", Checks.made(40, "1").leastWidth(rows), 101);
        }
    }

    // From 8 on the first group is flat and pushes the second one over the edge: three rows again.
    private static void leastWidthIsTheLeast() {
        Checks.sentence("Promise 12: the least width");
        PrettyStream x = Checks.made(40, "(0 5 / 1 ) (0 1 / 1 / 1 )");
        int[] rowsAt = {4, 4, 4, 4, 4, 2, 2, 3, 3, 3, 3, 1};
        for (int width = 1; width <= 12; width++) {
            x.width(width);
            Checks.due("rows at " + width, x.rows(), rowsAt[width - 1]);
        }
        Checks.due("4 rows", x.leastWidth(4), 1);
        Checks.due("3 rows", x.leastWidth(3), 6);
        Checks.due("2 rows", x.leastWidth(2), 6);
        Checks.due("1 row", x.leastWidth(1), 12);
    }

    private static void leastWidthOfAnEmptyDocument() {
        Checks.sentence("Promise 12: (of an empty document)");
        PrettyStream x = new PrettyStream(40);
        Checks.due("0 rows", x.leastWidth(0), 101);
        Checks.due("1 row", x.leastWidth(1), 1);
        Checks.due("2 rows", x.leastWidth(2), 1);
    }

    private static void leastWidthLeavesTheWidth() {
        Checks.sentence("Promise 12: (the object's own width does not matter, and stays)");
        for (int width = 4; width <= 8; width++) {
            PrettyStream x = Checks.made(width, "(2 3 / 3 )");
            for (int rows = 0; rows <= 2; rows++) {
                Checks.due(rows + " rows at " + width, x.leastWidth(rows), new int[] {101, 7, 1}[rows]);
                Checks.due("flat(0) at " + width, x.flat(0), width < 7 ? 0 : 1);
                Checks.due("rows at " + width, x.rows(), width < 7 ? 2 : 1);
                Checks.at(x, 3, width < 7 ? 1 : 0, width < 7 ? 2 : 4);
            }
        }
    }

    private static void answersUpToTheLastCall() {
        Checks.sentence("an object is used for at most 512 calls after it has been made");
        PrettyStream x = Checks.made(7, "(2 3 / 3 )");
        for (int call = 6; call <= 509; call++) {
            Checks.due("call " + call, x.word(0), -1);
        }
        Checks.due("call 510", x.flat(0), 1);
        Checks.due("call 511", x.word(1), 6);
        Checks.due("call 512", x.flat(0), 0);
    }
}

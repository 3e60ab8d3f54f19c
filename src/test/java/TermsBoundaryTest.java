/** The boundary cases under 'Terms', sentence by sentence, each on both sides. */
public final class TermsBoundaryTest {
    public static void main(String[] args) {
        atMost60Pieces();
        wordLengths();
        indents();
        closeBelongsToTheLastOpenThatHasNone();
        groupsWithoutCloseAreOpenToTheEnd();
        insideIsBetweenOpenAndClose();
        insideAllOuterGroups();
        innermostIsTheLastOpened();
        rowAndColumnStartAt0();
        flatIfColumnPlusReachIsAtMostTheWidth();
        aGroupInsideAFlatGroupIsFlat();
        reachSumsWordsAndBreaks();
        reachGoesUpToTheNextBreakBehindTheClose();
        reachGoesThroughWhicheverGroups();
        reachGoesToTheEndOfTheDocument();
        reachWithoutACloseTakesAllBehindTheOpen();
        marginAddsTheIndent();
        openAndCloseChangeNeitherRowNorColumn();
        aWordStandsAndThenTheColumnGrows();
        aFlatBreakIsLikeAWordOfLength1();
        anyOtherBreakStartsARowAtTheMargin();
        aBreakInNoGroupStartsARowAt0();
        Checks.end();
    }

    private static void atMost60Pieces() {
        Checks.sentence("a row of at most 60 pieces, counted from 0");
        PrettyStream x = new PrettyStream(1);
        for (int count = 1; count <= 59; count++) {
            Checks.due("piece " + count, x.word(1), count);
        }
        Checks.at(x, 0, 0, 0);
        Checks.at(x, 58, 0, 58);
        Checks.at(x, 59, -1, -1);
        Checks.due("rows of 59", x.rows(), 1);
        Checks.due("piece 60", x.lineBreak(), 60);
        Checks.at(x, 59, 0, 59);
        Checks.due("rows of 60", x.rows(), 2);
        Checks.due("piece 61", x.lineBreak(), -1);
        Checks.at(x, 60, -1, -1);
        Checks.due("rows of 60 still", x.rows(), 2);
    }

    private static void wordLengths() {
        Checks.sentence("words, each with a length from 1 to 20");
        PrettyStream x = new PrettyStream(1);
        Checks.due("word(0)", x.word(0), -1);
        Checks.due("widest", x.widest(), 0);
        Checks.due("word(1)", x.word(1), 1);
        Checks.due("widest behind 1", x.widest(), 1);
        Checks.due("word(20)", x.word(20), 2);
        Checks.due("widest behind 20", x.widest(), 21);
        Checks.due("word(21)", x.word(21), -1);
        Checks.due("widest behind a refused word", x.widest(), 21);
    }

    private static void indents() {
        Checks.sentence("open (with an indent from 0 to 8)");
        PrettyStream x = new PrettyStream(1);
        Checks.due("open(-1)", x.open(-1), -1);
        Checks.due("open(0)", x.open(0), 1);
        Checks.fill(x, "2 / 1");
        Checks.at(x, 3, 1, 0);
        Checks.due("open(9)", x.open(9), -1);
        Checks.due("open(8)", x.open(8), 5);
        Checks.fill(x, "2 / 1");
        Checks.at(x, 7, 2, 8);
    }

    private static void closeBelongsToTheLastOpenThatHasNone() {
        Checks.sentence("every close belongs to the last open before it that has none yet");
        PrettyStream nested = Checks.made(1, "(1 (2 (4 2 / ) / ) / ) / 1");
        Checks.at(nested, 5, 1, 7);
        Checks.at(nested, 7, 2, 3);
        Checks.at(nested, 9, 3, 1);
        Checks.at(nested, 11, 4, 0);
        Checks.due("close of none", nested.close(), -1);
        // The open before the last close has a close already, so that close ends the outer group.
        PrettyStream beside = Checks.made(1, "(1 2 / (2 ) (4 2 / 1 ) / 1 ) / 1");
        Checks.at(beside, 8, 2, 5);
        Checks.at(beside, 11, 3, 1);
        Checks.at(beside, 14, 4, 0);
        Checks.due("close of none", beside.close(), -1);
    }

    private static void groupsWithoutCloseAreOpenToTheEnd() {
        Checks.sentence("groups without a close are open to the end of the document");
        Checks.at(Checks.made(1, "(3 2 / 1 / 1"), 5, 2, 3);
        Checks.at(Checks.made(1, "(3 2 / 1 ) / 1"), 6, 2, 0);
        PrettyStream open = Checks.made(1, "(8");
        PrettyStream closed = Checks.made(1, "(8 )");
        for (int count = 3; count <= 60; count++) {
            open.lineBreak();
            closed.lineBreak();
        }
        open.lineBreak();
        Checks.at(open, 59, 58, 8);
        Checks.due("rows with the group open", open.rows(), 60);
        Checks.due("widest with the group open", open.widest(), 8);
        Checks.at(closed, 59, 57, 0);
        Checks.due("rows with the group closed", closed.rows(), 59);
        Checks.due("widest with the group closed", closed.widest(), 0);
    }

    private static void insideIsBetweenOpenAndClose() {
        Checks.sentence("the pieces between an open and its close are inside that group");
        PrettyStream x = Checks.made(1, "2 / (5 / 2 / ) / 2");
        Checks.due("the break before the open", x.column(2), 0);
        Checks.due("the break behind the open", x.column(4), 5);
        Checks.due("the break before the close", x.column(6), 5);
        Checks.due("the break behind the close", x.column(8), 0);
    }

    private static void insideAllOuterGroups() {
        Checks.sentence("and inside all groups that this one is inside");
        Checks.flatFrom(10, "(0 (0 (0 2 / 2 ) ) / 4 )", 0);
        Checks.at(Checks.made(1, "(1 (2 (4 2 / 1"), 5, 1, 7);
        Checks.at(Checks.made(1, "(1 ) (2 ) (4 2 / 1"), 7, 1, 4);
    }

    private static void innermostIsTheLastOpened() {
        Checks.sentence("the innermost group is the last opened of those that it is inside");
        PrettyStream x = Checks.made(1, "(1 2 / (2 2 / ) 2 / )");
        Checks.due("before the inner group", x.column(3), 1);
        Checks.due("in the inner group", x.column(6), 3);
        Checks.due("behind the inner group", x.column(9), 1);
        // The inner group is flat, the outer one broken: each break goes by its own group.
        PrettyStream y = Checks.made(4, "(1 3 / (2 1 / 1 ) / 3 )");
        Checks.at(y, 6, 1, 3);
        Checks.at(y, 9, 2, 1);
        y.width(3);
        Checks.at(y, 6, 2, 3);
        Checks.at(y, 9, 3, 1);
    }

    private static void rowAndColumnStartAt0() {
        Checks.sentence("a row (0 at the start) and a column (0 at the start)");
        for (String first : new String[] {"20", "/", "(8"}) {
            Checks.at(Checks.made(1, first), 0, 0, 0);
        }
        // An earlier laying out leaves nothing behind.
        PrettyStream x = Checks.made(1, "3 / 3");
        Checks.due("rows", x.rows(), 2);
        Checks.due("widest", x.widest(), 3);
        Checks.at(x, 0, 0, 0);
        Checks.due("rows again", x.rows(), 2);
        Checks.due("widest again", x.widest(), 3);
    }

    private static void flatIfColumnPlusReachIsAtMostTheWidth() {
        Checks.sentence("flat if the column there plus its reach is at most w, else broken");
        Checks.flatFrom(5, "(0 2 / 2 )", 0);
        Checks.flatFrom(8, "3 (0 2 / 2 )", 1);
        Checks.flatFrom(5, "9 / (0 2 / 2 )", 2);
        Checks.flatFrom(9, "(4 20 20 20 20 / (0 2 / 2 ) / 20 )", 6);
        Checks.due("1 of 1", Checks.made(1, "(0 1 )").flat(0), 1);
        Checks.due("2 of 1", Checks.made(1, "(0 2 )").flat(0), 0);
        Checks.due("100 of 100", Checks.made(100, "20 20 20 20 (0 19 /").flat(4), 1);
        Checks.due("101 of 100", Checks.made(100, "20 20 20 20 (0 20 /").flat(4), 0);
        Checks.due("an empty group, 1 of 1", Checks.made(1, "1 (0 )").flat(1), 1);
        Checks.due("an empty group, 2 of 1", Checks.made(1, "2 (0 )").flat(1), 0);
    }

    private static void aGroupInsideAFlatGroupIsFlat() {
        Checks.sentence("a group inside a flat group is flat");
        String text = "(0 1 / (0 1 / 1 ) )";
        PrettyStream x = Checks.made(5, text);
        Checks.due("outer at 5", x.flat(0), 1);
        Checks.due("inner at 5", x.flat(3), 1);
        x.width(4);
        Checks.due("outer at 4", x.flat(0), 0);
        Checks.due("inner at 4, by its own reach", x.flat(3), 1);
        x.width(2);
        Checks.due("inner at 2, by its own reach", x.flat(3), 0);
        PrettyStream deep = new PrettyStream(24);
        for (int depth = 1; depth <= 12; depth++) {
            Checks.fill(deep, "(8 1 /");
        }
        for (int open = 0; open < 36; open += 3) {
            Checks.due("of twelve at 24, piece " + open, deep.flat(open), 1);
        }
        deep.width(23);
        Checks.due("the outermost of twelve at 23", deep.flat(0), 0);
    }

    private static void reachSumsWordsAndBreaks() {
        Checks.sentence("the sum of the lengths of all words and 1 for every break between");
        Checks.flatFrom(7, "(0 3 / / 2 )", 0);
        Checks.flatFrom(7, "(0 / 3 2 / )", 0);
        Checks.flatFrom(2, "(0 / / )", 0);
        Checks.flatFrom(42, "(0 1 20 / 20 )", 0);
        Checks.flatFrom(7, "(0 (8 1 / 1 ) / (8 1 / 1 ) )", 0);
        Checks.flatFrom(3, "9 9 / (0 1 / 1 ) / 9 9", 3);
    }

    private static void reachGoesUpToTheNextBreakBehindTheClose() {
        Checks.sentence("plus all words behind its close up to the next break behind its close");
        Checks.flatFrom(3, "(0 1 / 1 ) / 9", 0);
        Checks.flatFrom(4, "(0 1 / 1 ) 1 / 9", 0);
        Checks.flatFrom(8, "(0 1 / 1 ) 2 3 / 9", 0);
        Checks.flatFrom(8, "(0 1 / 1 ) 2 3 / / 9 /", 0);
        // A break that is added behind the words changes nothing, a word before it does.
        PrettyStream x = Checks.made(8, "(0 1 / 1 ) 2 3");
        Checks.due("to the end", x.flat(0), 1);
        Checks.fill(x, "/ 9");
        Checks.due("to the break", x.flat(0), 1);
        PrettyStream y = Checks.made(8, "(0 1 / 1 ) 2 3 1 / 9");
        Checks.due("a word more", y.flat(0), 0);
    }

    private static void reachGoesThroughWhicheverGroups() {
        Checks.sentence("(whichever groups these are in)");
        Checks.flatFrom(8, "(0 1 / 1 ) 2 (0 3 / 9 )", 0);
        Checks.flatFrom(8, "(0 1 / 1 ) (0 2 ) 3 / 9", 0);
        Checks.flatFrom(8, "(0 1 / 1 ) (0 (0 2 ) 3 / 9", 0);
        Checks.flatFrom(3, "(0 1 / 1 ) (0 (0 / 9 ) )", 0);
        Checks.flatFrom(5, "(0 (0 1 / 1 ) 2 / 9 )", 1);
        Checks.flatFrom(17, "(0 / 9 (0 1 / 1 ) 2 ) 3 / 9", 3);
        Checks.flatFrom(10, "(0 (0 / 9 / (0 1 / 1 ) 2 ) 3 ) 2 / 9", 5);
        // The next break ends the reach although its own group, being flat, has no new row there.
        PrettyStream x = Checks.made(7, "(0 1 / 1 ) (0 2 / 1 ) / 9");
        Checks.due("the first", x.flat(0), 1);
        Checks.due("the second", x.flat(5), 1);
        x.width(6);
        Checks.due("the first at 6", x.flat(0), 1);
        Checks.due("the second at 6", x.flat(5), 0);
        x.width(4);
        Checks.due("the first at 4", x.flat(0), 0);
    }

    private static void reachGoesToTheEndOfTheDocument() {
        Checks.sentence("or to the end of the document");
        Checks.flatFrom(3, "(0 1 / 1 )", 0);
        Checks.flatFrom(8, "(0 1 / 1 ) 2 3", 0);
        Checks.flatFrom(8, "(0 1 / 1 ) 2 (0 3 )", 0);
        Checks.flatFrom(8, "(0 1 / 1 ) 2 (0 3", 0);
        Checks.flatFrom(8, "(0 / (0 1 / 1 ) 2 3", 2);
        // The last of 60 pieces still counts.
        PrettyStream x = Checks.made(60, "(0 1 / 1 )");
        for (int count = 6; count <= 59; count++) {
            Checks.due("piece " + count, x.word(1), count);
        }
        Checks.due("59 pieces reach 57", x.leastWidth(1), 57);
        Checks.due("piece 60", x.word(1), 60);
        Checks.due("60 pieces reach 58", x.leastWidth(1), 58);
        x.width(57);
        Checks.due("60 pieces at 57", x.flat(0), 0);
        x.width(58);
        Checks.due("60 pieces at 58", x.flat(0), 1);
    }

    private static void reachWithoutACloseTakesAllBehindTheOpen() {
        Checks.sentence("without a close: all words and 1 for every break behind its open");
        Checks.flatFrom(7, "(0 1 / 1 / 3", 0);
        Checks.flatFrom(7, "9 / (0 1 / 1 / 3", 2);
        Checks.flatFrom(6, "(0 (0 1 / 1 ) / 2", 0);
        Checks.flatFrom(8, "(0 (0 1 / 1 ) / 2 / /", 0);
        Checks.flatFrom(3, "(0 1 / 1 ) / 3", 0);
        Checks.due("nothing behind, 1 of 1", Checks.made(1, "1 (0").flat(1), 1);
        Checks.due("nothing behind, 2 of 1", Checks.made(1, "2 (0").flat(1), 0);
        PrettyStream x = Checks.made(5, "(0 1 / 1 /");
        Checks.due("4 of 5", x.flat(0), 1);
        Checks.fill(x, "1");
        Checks.due("5 of 5", x.flat(0), 1);
        Checks.fill(x, "/");
        Checks.due("6 of 5", x.flat(0), 0);
    }

    private static void marginAddsTheIndent() {
        Checks.sentence("the margin of the group its open is inside (0 if none) plus its indent");
        Checks.at(Checks.made(1, "(0 2 / 1"), 3, 1, 0);
        Checks.at(Checks.made(1, "(8 2 / 1"), 3, 1, 8);
        Checks.at(Checks.made(1, "9 (8 2 / 1"), 4, 1, 8);
        Checks.at(Checks.made(1, "(3 2 / (4 2 / 1"), 6, 2, 7);
        Checks.at(Checks.made(1, "(3 2 / (0 2 / 1"), 6, 2, 3);
        Checks.at(Checks.made(1, "(3 2 / ) (4 2 / 1"), 7, 2, 4);
        PrettyStream x = new PrettyStream(1);
        for (int depth = 1; depth <= 12; depth++) {
            Checks.due("open " + depth, x.open(8), depth);
        }
        Checks.fill(x, "2 / 1");
        Checks.at(x, 14, 1, 96);
    }

    private static void openAndCloseChangeNeitherRowNorColumn() {
        Checks.sentence("an open or close changes neither row nor column");
        for (int width = 1; width <= 10; width++) {
            PrettyStream x = Checks.made(width, "2 (8 3 ) 1 (8 )");
            Checks.at(x, 1, 0, 2);
            Checks.at(x, 2, 0, 2);
            Checks.at(x, 3, 0, 5);
            Checks.at(x, 4, 0, 5);
            Checks.at(x, 5, 0, 6);
            Checks.at(x, 6, 0, 6);
            Checks.due("rows", x.rows(), 1);
            Checks.due("widest", x.widest(), 6);
        }
    }

    private static void aWordStandsAndThenTheColumnGrows() {
        Checks.sentence("a word stands at the present row and column; then the column grows");
        PrettyStream x = Checks.made(1, "1 20 1 / 20 2");
        Checks.at(x, 0, 0, 0);
        Checks.at(x, 1, 0, 1);
        Checks.at(x, 2, 0, 21);
        Checks.at(x, 3, 0, 22);
        Checks.at(x, 4, 1, 0);
        Checks.at(x, 5, 1, 20);
    }

    private static void aFlatBreakIsLikeAWordOfLength1() {
        Checks.sentence("a break whose innermost group is flat stands like a word of length 1");
        PrettyStream x = Checks.made(7, "(8 2 / / 3 )");
        Checks.at(x, 2, 0, 2);
        Checks.at(x, 3, 0, 3);
        Checks.at(x, 4, 0, 4);
        Checks.at(x, 5, 0, 7);
        Checks.due("rows", x.rows(), 1);
        x.width(6);
        Checks.at(x, 2, 0, 2);
        Checks.at(x, 3, 1, 8);
        Checks.at(x, 4, 2, 8);
        Checks.at(x, 5, 2, 11);
        Checks.due("rows at 6", x.rows(), 3);
    }

    private static void anyOtherBreakStartsARowAtTheMargin() {
        Checks.sentence("any other one: the row grows by 1 and the column becomes the margin");
        PrettyStream below = Checks.made(1, "(8 1 / 2 )");
        Checks.at(below, 2, 0, 1);
        Checks.at(below, 3, 1, 8);
        PrettyStream equal = Checks.made(1, "(8 8 / 2 )");
        Checks.at(equal, 2, 0, 8);
        Checks.at(equal, 3, 1, 8);
        PrettyStream above = Checks.made(1, "(8 9 / 2 )");
        Checks.at(above, 2, 0, 9);
        Checks.at(above, 3, 1, 8);
    }

    private static void aBreakInNoGroupStartsARowAt0() {
        Checks.sentence("(also one that is in no group) the column becomes 0 if there is none");
        PrettyStream alone = Checks.made(100, "1 / 1");
        Checks.at(alone, 1, 0, 1);
        Checks.at(alone, 2, 1, 0);
        Checks.at(Checks.made(100, "(8 1 ) / 1"), 4, 1, 0);
        Checks.at(Checks.made(100, "/ (8 1 / 1"), 1, 1, 0);
        // The same break inside the group is flat.
        Checks.at(Checks.made(100, "(8 1 / ) 1"), 4, 0, 2);
    }
}

/** Promises 7 to 11: where the pieces stand, which groups are flat, how far the document goes. */
public final class LayoutTest {
    public static void main(String[] args) {
        breaksInNoGroup();
        flatAndBrokenGroup();
        endsOfGroupsStandWhereTheyAre();
        reachGoesOnToTheNextBreak();
        reachGoesThroughOtherGroups();
        reachOfAGroupWithoutClose();
        reachCountsFromTheColumn();
        groupsInsideFlatGroups();
        groupsInsideBrokenGroups();
        marginsAddUp();
        marginOfAFlatGroupIsNotUsed();
        flatOfOtherPieces();
        noSuchPiece();
        widestPlaces();
        emptyGroups();
        Checks.end();
    }

    private static void breaksInNoGroup() {
        PrettyStream x = Checks.made(100, "3 / 4 5 / / 1");
        Checks.at(x, 0, 0, 0);
        Checks.at(x, 1, 0, 3);
        Checks.at(x, 2, 1, 0);
        Checks.at(x, 3, 1, 4);
        Checks.at(x, 4, 1, 9);
        Checks.at(x, 5, 2, 0);
        Checks.at(x, 6, 3, 0);
        Checks.due("rows", x.rows(), 4);
        Checks.due("widest", x.widest(), 9);
    }

    private static void flatAndBrokenGroup() {
        PrettyStream x = Checks.made(9, "(3 4 / 4 )");
        Checks.due("flat at 9", x.flat(0), 1);
        Checks.at(x, 2, 0, 4);
        Checks.at(x, 3, 0, 5);
        Checks.at(x, 4, 0, 9);
        Checks.due("rows at 9", x.rows(), 1);
        Checks.due("widest at 9", x.widest(), 9);
        x.width(8);
        Checks.due("flat at 8", x.flat(0), 0);
        Checks.at(x, 2, 0, 4);
        Checks.at(x, 3, 1, 3);
        Checks.at(x, 4, 1, 7);
        Checks.due("rows at 8", x.rows(), 2);
        Checks.due("widest at 8", x.widest(), 7);
    }

    private static void endsOfGroupsStandWhereTheyAre() {
        PrettyStream x = Checks.made(1, "2 (5 3 / (1 ) 4 ) 1");
        Checks.at(x, 1, 0, 2);
        Checks.at(x, 2, 0, 2);
        Checks.at(x, 3, 0, 5);
        Checks.at(x, 4, 1, 5);
        Checks.at(x, 5, 1, 5);
        Checks.at(x, 6, 1, 5);
        Checks.at(x, 7, 1, 9);
        Checks.at(x, 8, 1, 9);
    }

    private static void reachGoesOnToTheNextBreak() {
        PrettyStream x = Checks.made(8, "(0 2 / 2 ) 1 2 / 7");
        Checks.due("words up to the break count", x.flat(0), 1);
        x.width(7);
        Checks.due("all words up to the break count", x.flat(0), 0);
        PrettyStream y = Checks.made(8, "(0 2 / 2 ) 1 2");
        Checks.due("words up to the end count", y.flat(0), 1);
        y.width(7);
        Checks.due("all words up to the end count", y.flat(0), 0);
        PrettyStream z = Checks.made(5, "(0 2 / 2 ) / 9");
        Checks.due("nothing behind a break at once behind the close", z.flat(0), 1);
        z.width(4);
        Checks.due("a group without its column", z.flat(0), 0);
    }

    private static void reachGoesThroughOtherGroups() {
        PrettyStream x = Checks.made(12, "(0 (0 2 / 2 ) 3 ) (0 4 / 9 )");
        Checks.due("inner reach of 12", x.flat(1), 1);
        Checks.due("outer reach of 12", x.flat(0), 1);
        x.width(11);
        Checks.due("inner reach over 11", x.flat(1), 0);
        Checks.due("outer reach over 11", x.flat(0), 0);
        // The break that ends the reach counts even where its own group is flat.
        PrettyStream y = Checks.made(6, "(0 1 / 1 ) (0 3 / 3 )");
        Checks.due("up to a break in another group", y.flat(0), 1);
        Checks.due("the other group", y.flat(5), 0);
    }

    private static void reachOfAGroupWithoutClose() {
        PrettyStream x = Checks.made(9, "(2 2 / (1 3 / 2");
        Checks.due("all to the end at 9", x.flat(0), 1);
        Checks.due("inside it", x.flat(3), 1);
        x.width(8);
        Checks.due("all to the end at 8", x.flat(0), 0);
        Checks.due("the inner one at 8", x.flat(3), 1);
        Checks.at(x, 3, 1, 2);
        x.width(7);
        Checks.due("the inner one at 7", x.flat(3), 0);
        Checks.fill(x, ") / 6");
        x.width(8);
        Checks.due("closed, its reach ends", x.flat(3), 1);
        Checks.due("the unclosed one goes on", x.flat(0), 0);
        x.width(16);
        Checks.due("the unclosed one at 16", x.flat(0), 1);
        x.width(15);
        Checks.due("the unclosed one at 15", x.flat(0), 0);
    }

    private static void reachCountsFromTheColumn() {
        PrettyStream x = Checks.made(9, "4 (0 2 / 2 )");
        Checks.due("column 4 and reach 5 at 9", x.flat(1), 1);
        x.width(8);
        Checks.due("column 4 and reach 5 at 8", x.flat(1), 0);
        PrettyStream y = Checks.made(5, "4 / (0 2 / 2 )");
        Checks.due("on a new row", y.flat(2), 1);
    }

    private static void groupsInsideFlatGroups() {
        // The word of 6 is in the reach of both groups, so both turn at the same width. (An outer
        // reach always covers the inner ones: no document has an inner group that would be broken
        // by its own reach inside a flat one.)
        PrettyStream x = Checks.made(10, "(0 1 (0 1 / 1 ) ) 6");
        Checks.due("outer at 10", x.flat(0), 1);
        Checks.due("inner at 10", x.flat(2), 1);
        x.width(9);
        Checks.due("outer at 9", x.flat(0), 0);
        Checks.due("inner at 9", x.flat(2), 0);
        PrettyStream y = Checks.made(20, "(1 1 / (2 1 / (3 1 / 1 ) / 1 ) / 1 )");
        Checks.due("outermost", y.flat(0), 1);
        Checks.due("second", y.flat(3), 1);
        Checks.due("third", y.flat(6), 1);
        Checks.due("rows", y.rows(), 1);
    }

    private static void groupsInsideBrokenGroups() {
        PrettyStream x = Checks.made(7, "(1 3 / (2 2 / 2 ) / 3 )");
        Checks.due("outer", x.flat(0), 0);
        Checks.due("inner", x.flat(3), 1);
        Checks.at(x, 4, 1, 1);
        Checks.at(x, 5, 1, 3);
        Checks.at(x, 6, 1, 4);
        Checks.at(x, 8, 1, 6);
        Checks.at(x, 9, 2, 1);
        Checks.due("rows", x.rows(), 3);
        x.width(5);
        Checks.due("inner at 5", x.flat(3), 0);
        Checks.at(x, 6, 2, 3);
        Checks.due("rows at 5", x.rows(), 4);
    }

    private static void marginsAddUp() {
        PrettyStream x = new PrettyStream(1);
        int margin = 0;
        int row = 0;
        for (int depth = 1; depth <= 12; depth++) {
            x.open(depth % 9);
            margin += depth % 9;
            int number = x.lineBreak();
            x.word(1);
            row++;
            Checks.at(x, number, row, margin);
        }
        Checks.due("rows of twelve depths", x.rows(), 13);
        Checks.due("widest of twelve depths", x.widest(), margin + 1);
    }

    private static void marginOfAFlatGroupIsNotUsed() {
        PrettyStream x = Checks.made(8, "(2 1 (8 1 / 1 ) / 9 )");
        Checks.due("outer", x.flat(0), 0);
        Checks.due("inner", x.flat(2), 1);
        Checks.at(x, 8, 1, 2);
        // The margin is the sum of indents, whatever the column at the open.
        PrettyStream y = Checks.made(1, "5 (2 3 / 1 )");
        Checks.at(y, 4, 1, 2);
    }

    private static void flatOfOtherPieces() {
        PrettyStream x = Checks.made(50, "(0 1 / ) 1 /");
        Checks.due("flat of an open", x.flat(0), 1);
        for (int piece = 1; piece < 6; piece++) {
            Checks.due("flat of no open " + piece, x.flat(piece), -1);
        }
    }

    private static void noSuchPiece() {
        PrettyStream x = Checks.made(50, "(0 1 / 2");
        int[] wrong = {-1, -2, 4, 5, 59, 60, 61, 1000, Integer.MIN_VALUE, Integer.MAX_VALUE};
        for (int piece : wrong) {
            Checks.due("row(" + piece + ")", x.row(piece), -1);
            Checks.due("column(" + piece + ")", x.column(piece), -1);
            Checks.due("flat(" + piece + ")", x.flat(piece), -1);
        }
        Checks.at(x, 3, 0, 2);
    }

    private static void widestPlaces() {
        Checks.due("in the midst", Checks.made(1, "2 / 9 3 / 4").widest(), 12);
        Checks.due("at the end", Checks.made(1, "2 / 9 3").widest(), 12);
        Checks.due("on the first row", Checks.made(1, "7 / 2").widest(), 7);
        Checks.due("a margin at the end", Checks.made(1, "(8 (8 2 /").widest(), 16);
        Checks.due("a margin before a break", Checks.made(1, "(8 2 / ) / 1").widest(), 8);
        Checks.due("a flat break at the end", Checks.made(3, "(8 2 /").widest(), 3);
        Checks.due("beyond the width", Checks.made(1, "20 20 20 20 20 20").widest(), 120);
    }

    private static void emptyGroups() {
        PrettyStream x = Checks.made(1, "(3 ) (3 (4 ) )");
        Checks.due("empty group", x.flat(0), 1);
        Checks.due("group of a group", x.flat(2), 1);
        Checks.due("rows", x.rows(), 1);
        Checks.due("widest", x.widest(), 0);
        PrettyStream y = Checks.made(4, "4 (0 ) / 9 (1");
        Checks.due("empty group at the edge", y.flat(1), 1);
        Checks.due("empty unclosed group beyond the edge", y.flat(5), 0);
    }
}

import java.util.function.ToIntFunction;

/**
 * Promise 13, cause by cause: each refused call is made once on a document where it stands at its
 * boundary; then the document answers, and grows, as one on which the call was never made.
 */
public final class RefusalBoundaryTest {
    private static final String EMPTY = "";
    private static final String NO_GROUP = "2 / (3 1 / 2 ) 4 /";
    private static final String ONE_GROUP = "2 / (3 4 / (2 1 / 1 ) 3 /";
    private static final String ELEVEN = "1 (1 (1 (1 (1 (1 (1 (1 (1 (1 (1 (1 2 /";
    private static final String TWELVE = "1 (1 (1 (1 (1 (1 (1 (1 (1 (1 (1 (1 2 / (1 2 /";
    private static final String PIECES_59 = "2 / (3 1 ) (3" + " 1 /".repeat(26) + " 3";
    private static final String PIECES_60 = "2 / (3 1 ) (3" + " 1 /".repeat(27);
    private static final String CLOSED_60 = "2 / (3 1 )" + " (1 1 / 2 )".repeat(11);
    private static final String[] ALL = {
        EMPTY, NO_GROUP, ONE_GROUP, ELEVEN, TWELVE, PIECES_59, PIECES_60, CLOSED_60};
    private static final int[] WIDTHS = {1, 5, 9, 30, 60, 100};

    public static void main(String[] args) {
        theDocumentsAreAtTheirBoundaries();
        aNumberIsNotAsSaid();
        somethingIsNotThere();
        aLimitIsReached();
        Checks.end();
    }

    private static void theDocumentsAreAtTheirBoundaries() {
        Checks.sentence("(the documents of this test)");
        Checks.due("eleven: open", made(1, ELEVEN).open(8), 15);
        Checks.due("59 pieces: word", made(1, PIECES_59).word(20), 60);
        Checks.due("59 pieces: break", made(1, PIECES_59).lineBreak(), 60);
        Checks.due("59 pieces: open", made(1, PIECES_59).open(8), 60);
        Checks.due("59 pieces: close", made(1, PIECES_59).close(), 60);
        Checks.due("60 pieces: the last", made(1, PIECES_60).row(59) < 0 ? 1 : 0, 0);
        Checks.due("60 closed pieces: the last", made(1, CLOSED_60).row(59) < 0 ? 1 : 0, 0);
    }

    private static void aNumberIsNotAsSaid() {
        Checks.sentence("Promise 13: refused, because a number is not as said there");
        for (String text : ALL) {
            for (int length : new int[] {0, 21, -1, Integer.MIN_VALUE, Integer.MAX_VALUE}) {
                refuse(text, "word(" + length + ")", x -> x.word(length));
            }
            for (int indent : new int[] {-1, 9, Integer.MIN_VALUE, Integer.MAX_VALUE}) {
                refuse(text, "open(" + indent + ")", x -> x.open(indent));
            }
        }
    }

    private static void somethingIsNotThere() {
        Checks.sentence("Promise 13: refused, because something is not there");
        refuse(EMPTY, "close()", x -> x.close());
        refuse(NO_GROUP, "close()", x -> x.close());
        refuse(EMPTY, "row(0)", x -> x.row(0));
        refuse(EMPTY, "column(0)", x -> x.column(0));
        refuse(EMPTY, "flat(0)", x -> x.flat(0));
        for (String text : ALL) {
            int count = pieces(text);
            for (int piece : new int[] {-1, count, 60, Integer.MIN_VALUE, Integer.MAX_VALUE}) {
                refuse(text, "row(" + piece + ")", x -> x.row(piece));
                refuse(text, "column(" + piece + ")", x -> x.column(piece));
                refuse(text, "flat(" + piece + ")", x -> x.flat(piece));
            }
        }
        // Every piece of it but the open, which is piece 2.
        for (int piece : new int[] {0, 1, 3, 4, 5, 6, 7, 8}) {
            refuse(NO_GROUP, "flat(" + piece + ")", x -> x.flat(piece));
        }
    }

    private static void aLimitIsReached() {
        Checks.sentence("Promise 13: refused, because a limit is reached");
        for (int indent = 0; indent <= 8; indent++) {
            int taken = indent;
            refuse(TWELVE, "open(" + taken + ")", x -> x.open(taken));
            refuse(PIECES_60, "open(" + taken + ")", x -> x.open(taken));
        }
        for (String full : new String[] {PIECES_60, CLOSED_60}) {
            refuse(full, "word(1)", x -> x.word(1));
            refuse(full, "word(20)", x -> x.word(20));
            refuse(full, "lineBreak()", x -> x.lineBreak());
            refuse(full, "open(8)", x -> x.open(8));
            refuse(full, "close()", x -> x.close());
        }
    }

    private static PrettyStream made(int width, String text) {
        return text.isEmpty() ? new PrettyStream(width) : Checks.made(width, text);
    }

    private static int pieces(String text) {
        return text.isEmpty() ? 0 : text.split(" ").length;
    }

    private static void refuse(String text, String name, ToIntFunction<PrettyStream> call) {
        for (int width : WIDTHS) {
            String what = name + " at width " + width + " of '" + text + "'";
            PrettyStream plain = made(width, text);
            PrettyStream refused = made(width, text);
            Checks.due(what, call.applyAsInt(refused), -1);
            same(what, plain, refused, pieces(text));
            // Closes first, so that a group too many or too few is found out.
            grow(what, plain, refused);
            Checks.due(what + ", grown: rows", refused.rows(), plain.rows());
            Checks.due(what + ", grown: widest", refused.widest(), plain.widest());
            for (int piece = 0; piece < 60; piece++) {
                Checks.due(what + ", grown: column", refused.column(piece), plain.column(piece));
            }
        }
    }

    private static void same(String what, PrettyStream plain, PrettyStream refused, int pieces) {
        for (int piece = 0; piece <= pieces; piece++) {
            Checks.due(what + ": row(" + piece + ")", refused.row(piece), plain.row(piece));
            Checks.due(what + ": column(" + piece + ")", refused.column(piece), plain.column(piece));
            Checks.due(what + ": flat(" + piece + ")", refused.flat(piece), plain.flat(piece));
        }
        Checks.due(what + ": rows", refused.rows(), plain.rows());
        Checks.due(what + ": widest", refused.widest(), plain.widest());
        for (int rows = 0; rows <= 4; rows++) {
            Checks.due(what + ": leastWidth", refused.leastWidth(rows), plain.leastWidth(rows));
        }
    }

    private static void grow(String what, PrettyStream plain, PrettyStream refused) {
        for (int i = 0; i < 13; i++) {
            Checks.due(what + ": break behind", refused.lineBreak(), plain.lineBreak());
            Checks.due(what + ": close behind", refused.close(), plain.close());
        }
        for (int i = 0; i < 13; i++) {
            Checks.due(what + ": open behind", refused.open(i % 9), plain.open(i % 9));
        }
        Checks.due(what + ": word behind", refused.word(3), plain.word(3));
    }
}

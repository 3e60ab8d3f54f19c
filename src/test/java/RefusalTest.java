/** Promise 13: a refused call changes nothing, at any point of the building of a document. */
public final class RefusalTest {
    private static final int[] FAR = {
        -1, -2, -60, 61, 100, 512, Integer.MIN_VALUE, Integer.MIN_VALUE + 1, Integer.MAX_VALUE};

    public static void main(String[] args) {
        refusedCallsLeaveADocumentAsItIs();
        refusedCallsLeaveAFullDocumentAsItIs();
        refusedOpensAtTwelveLeaveTheGroupsAsTheyAre();
        Checks.end();
    }

    private static void refusedCallsLeaveADocumentAsItIs() {
        String[] pieces = "2 / (3 4 / (2 1 / 1 ) 3 / 2 ) 1 / 5".split(" ");
        for (int width = 1; width <= 20; width++) {
            PrettyStream plain = new PrettyStream(width);
            PrettyStream pestered = new PrettyStream(width);
            int unclosed = 0;
            for (int i = 0; i < pieces.length; i++) {
                refuseAll(pestered, unclosed);
                Checks.fill(plain, pieces[i]);
                Checks.fill(pestered, pieces[i]);
                unclosed += pieces[i].startsWith("(") ? 1 : pieces[i].equals(")") ? -1 : 0;
            }
            refuseAll(pestered, unclosed);
            same("width " + width, plain, pestered, pieces.length);
        }
    }

    private static void refuseAll(PrettyStream x, int unclosed) {
        Checks.due("word(0)", x.word(0), -1);
        Checks.due("word(21)", x.word(21), -1);
        Checks.due("open(-1)", x.open(-1), -1);
        Checks.due("open(9)", x.open(9), -1);
        if (unclosed == 0) {
            Checks.due("close()", x.close(), -1);
        }
        for (int i = 0; i < FAR.length && unclosed == 0; i++) {
            Checks.due("word(far)", x.word(FAR[i]), -1);
            Checks.due("open(far)", x.open(FAR[i]), -1);
            Checks.due("row(far)", x.row(FAR[i]), -1);
            Checks.due("column(far)", x.column(FAR[i]), -1);
            Checks.due("flat(far)", x.flat(FAR[i]), -1);
        }
        Checks.due("leastWidth(0)", x.leastWidth(0), 101);
    }

    private static void refusedCallsLeaveAFullDocumentAsItIs() {
        PrettyStream plain = full();
        PrettyStream pestered = full();
        for (int i = 0; i < 10; i++) {
            Checks.due("word when full", pestered.word(1 + i), -1);
            Checks.due("break when full", pestered.lineBreak(), -1);
            Checks.due("open when full", pestered.open(i % 9), -1);
            Checks.due("close when full", pestered.close(), -1);
        }
        same("full", plain, pestered, 60);
        plain.width(100);
        pestered.width(100);
        same("full at 100", plain, pestered, 60);
    }

    // The one unclosed group would be broken or flat otherwise if a refused close had ended it.
    private static PrettyStream full() {
        PrettyStream x = Checks.made(10, "2 (3");
        for (int i = 0; i < 29; i++) {
            Checks.fill(x, "1 /");
        }
        return x;
    }

    private static void refusedOpensAtTwelveLeaveTheGroupsAsTheyAre() {
        String twelve = "(1 (1 (1 (1 (1 (1 (1 (1 (1 (1 (1 (1";
        PrettyStream plain = Checks.made(1, twelve);
        PrettyStream pestered = Checks.made(1, twelve);
        for (int i = 0; i < 5; i++) {
            Checks.due("open at twelve", pestered.open(8), -1);
        }
        Checks.fill(plain, "1 / 1 ) / 1 (2 / 1");
        Checks.fill(pestered, "1 / 1 ) / 1 (2 / 1");
        Checks.due("open at twelve again", pestered.open(0), -1);
        same("twelve", plain, pestered, 21);
        Checks.due("column in twelve groups", pestered.column(14), 12);
        Checks.due("column in eleven groups", pestered.column(17), 11);
        Checks.due("column in a new twelfth group", pestered.column(20), 13);
    }

    private static void same(String what, PrettyStream plain, PrettyStream other, int pieces) {
        for (int piece = -1; piece <= pieces; piece++) {
            Checks.due(what + ": row(" + piece + ")", other.row(piece), plain.row(piece));
            Checks.due(what + ": column(" + piece + ")", other.column(piece), plain.column(piece));
            Checks.due(what + ": flat(" + piece + ")", other.flat(piece), plain.flat(piece));
        }
        Checks.due(what + ": row of the last", other.row(pieces - 1) < 0 ? 1 : 0, 0);
        Checks.due(what + ": row behind the last", other.row(pieces), -1);
        Checks.due(what + ": rows", other.rows(), plain.rows());
        Checks.due(what + ": widest", other.widest(), plain.widest());
        for (int rows = 0; rows <= 4; rows++) {
            Checks.due(what + ": leastWidth", other.leastWidth(rows), plain.leastWidth(rows));
        }
    }
}

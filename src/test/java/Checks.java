/** Counts and prints the answers that are not as due; a test's main ends with end(). */
final class Checks {
    private static int wrong = 0;
    private static String sentence = "";

    private Checks() {
    }

    /** The sentence of the document that the next answers hold to; it is told with a wrong one. */
    static void sentence(String words) {
        sentence = "[" + words + "] ";
    }

    static void due(String what, long got, long want) {
        if (got != want) {
            wrong++;
            System.out.println(sentence + what + " answered " + got + ", due is " + want);
        }
    }

    static void at(PrettyStream stream, int piece, int row, int column) {
        due("row(" + piece + ")", stream.row(piece), row);
        due("column(" + piece + ")", stream.column(piece), column);
    }

    /** The group is flat at the width and at the next one, but broken at the one before. */
    static void flatFrom(int width, String text, int open) {
        due(text + " at " + (width - 1) + ": flat(" + open + ")", made(width - 1, text).flat(open), 0);
        due(text + " at " + width + ": flat(" + open + ")", made(width, text).flat(open), 1);
        due(text + " at " + (width + 1) + ": flat(" + open + ")", made(width + 1, text).flat(open), 1);
    }

    /**
     * Adds pieces told as text, parted by blanks: a number is a word of that length, "/" a break,
     * "(n" an open with indent n, ")" a close. Each must be taken.
     */
    static void fill(PrettyStream stream, String text) {
        for (String piece : text.split(" ")) {
            int answer;
            if (piece.equals("/")) {
                answer = stream.lineBreak();
            } else if (piece.equals(")")) {
                answer = stream.close();
            } else if (piece.startsWith("(")) {
                answer = stream.open(Integer.parseInt(piece.substring(1)));
            } else {
                answer = stream.word(Integer.parseInt(piece));
            }
            due("taking " + piece + " of " + text, answer < 1 ? 0 : 1, 1);
        }
    }

    static PrettyStream made(int width, String text) {
        PrettyStream stream = new PrettyStream(width);
        fill(stream, text);
        return stream;
    }

    static void end() {
        System.out.println(wrong == 0 ? "all answers are as due" : wrong + " answers are not as due");
        if (wrong != 0) {
            System.exit(1);
        }
    }
}

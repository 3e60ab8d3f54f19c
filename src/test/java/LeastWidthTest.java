/** Promise 12: the least width for at most so many rows. */
public final class LeastWidthTest {
    public static void main(String[] args) {
        emptyDocument();
        oneGroup();
        noWidthIsEnough();
        theEdgeAt100();
        moreWidthCanNeedMoreRows();
        theWidthOfTheObjectStaysAndDoesNotMatter();
        Checks.end();
    }

    private static void emptyDocument() {
        PrettyStream x = new PrettyStream(40);
        Checks.due("empty, 1 row", x.leastWidth(1), 1);
        Checks.due("empty, 0 rows", x.leastWidth(0), 101);
        Checks.due("empty, -1 rows", x.leastWidth(-1), 101);
        Checks.due("empty, least int", x.leastWidth(Integer.MIN_VALUE), 101);
        Checks.due("empty, greatest int", x.leastWidth(Integer.MAX_VALUE), 1);
    }

    private static void oneGroup() {
        PrettyStream x = Checks.made(40, "(2 3 / 3 / 3 )");
        Checks.due("1 row", x.leastWidth(1), 11);
        Checks.due("2 rows", x.leastWidth(2), 11);
        Checks.due("3 rows", x.leastWidth(3), 1);
        Checks.due("4 rows", x.leastWidth(4), 1);
        Checks.due("0 rows", x.leastWidth(0), 101);
    }

    private static void noWidthIsEnough() {
        PrettyStream x = Checks.made(40, "3 / 3 / 3");
        Checks.due("2 rows of breaks in no group", x.leastWidth(2), 101);
        Checks.due("3 rows of breaks in no group", x.leastWidth(3), 1);
    }

    private static void theEdgeAt100() {
        PrettyStream x = Checks.made(1, "(0 20 20 20 20 / 19");
        Checks.due("reach 100", x.leastWidth(1), 100);
        Checks.fill(x, "1");
        Checks.due("reach 101", x.leastWidth(1), 101);
        Checks.due("reach 101 on 2 rows", x.leastWidth(2), 1);
    }

    private static void moreWidthCanNeedMoreRows() {
        PrettyStream x = Checks.made(7, "(0 5 / 1 ) (0 1 / 1 / 1 )");
        Checks.due("rows at 7", x.rows(), 2);
        x.width(8);
        Checks.due("rows at 8", x.rows(), 3);
        x.width(12);
        Checks.due("rows at 12", x.rows(), 1);
        Checks.due("2 rows", x.leastWidth(2), 6);
        Checks.due("3 rows", x.leastWidth(3), 6);
        Checks.due("4 rows", x.leastWidth(4), 1);
        Checks.due("1 row", x.leastWidth(1), 12);
    }

    private static void theWidthOfTheObjectStaysAndDoesNotMatter() {
        PrettyStream x = Checks.made(4, "(2 3 / 3 )");
        for (int width = 1; width <= 100; width++) {
            x.width(width);
            Checks.due("1 row, asked at " + width, x.leastWidth(1), 7);
            Checks.due("0 rows, asked at " + width, x.leastWidth(0), 101);
            Checks.due("flat at " + width, x.flat(0), width >= 7 ? 1 : 0);
            Checks.due("row at " + width, x.row(3), width >= 7 ? 0 : 1);
        }
    }
}

/** Texts with groups and possible breaks, laid out for a given width. */
public final class PrettyStream {
    private static final int MOST_PIECES = 60;
    private static final int MOST_UNCLOSED_GROUPS = 12;
    private static final int SHORTEST_WORD = 1;
    private static final int LONGEST_WORD = 20;
    private static final int LEAST_INDENT = 0;
    private static final int GREATEST_INDENT = 8;
    private static final int NARROWEST = 1;
    private static final int BROADEST = 100;

    private static final int WORD = 1;
    private static final int BREAK = 2;
    private static final int OPEN = 3;
    private static final int CLOSE = 4;

    private static final int REFUSED = -1;
    private static final int NO_GROUP = -1;
    // Behind every possible piece, so that no piece ever counts as behind a close that is missing.
    private static final int NO_CLOSE = MOST_PIECES;

    private final int[] kindOf = new int[MOST_PIECES];
    // What the piece adds to the column if it starts no new row: 0 for the ends of groups.
    private final int[] lengthOf = new int[MOST_PIECES];
    // The open of the piece's innermost group, or NO_GROUP.
    private final int[] groupOf = new int[MOST_PIECES];
    // These two are set for opens alone; neither depends on the width.
    private final int[] closeOf = new int[MOST_PIECES];
    private final int[] marginOf = new int[MOST_PIECES];
    private int pieces;
    private int innermost;
    private int unclosedGroups;
    private int chosenWidth;

    // What the last laying out found. Every question lays out anew, so none of it outlives a call.
    private final int[] rowOf = new int[MOST_PIECES];
    private final int[] columnOf = new int[MOST_PIECES];
    private final boolean[] flatOf = new boolean[MOST_PIECES];
    private int presentRow;
    private int presentColumn;
    private int greatestColumn;

    public PrettyStream(int width) {
        pieces = 0;
        innermost = NO_GROUP;
        unclosedGroups = 0;
        chosenWidth = withinLimits(width);
    }

    public int word(int length) {
        if (length < SHORTEST_WORD || length > LONGEST_WORD || isFull()) {
            return REFUSED;
        }
        return add(WORD, length);
    }

    public int lineBreak() {
        if (isFull()) {
            return REFUSED;
        }
        return add(BREAK, 1);
    }

    public int open(int indent) {
        if (indent < LEAST_INDENT || indent > GREATEST_INDENT || isFull()
                || unclosedGroups >= MOST_UNCLOSED_GROUPS) {
            return REFUSED;
        }
        int opened = pieces;
        marginOf[opened] = marginInside(innermost) + indent;
        closeOf[opened] = NO_CLOSE;
        add(OPEN, 0);
        innermost = opened;
        unclosedGroups++;
        return pieces;
    }

    public int close() {
        if (innermost == NO_GROUP || isFull()) {
            return REFUSED;
        }
        int closed = innermost;
        closeOf[closed] = pieces;
        innermost = groupOf[closed];
        unclosedGroups--;
        return add(CLOSE, 0);
    }

    public void width(int width) {
        chosenWidth = withinLimits(width);
    }

    public int row(int piece) {
        if (!isPiece(piece)) {
            return REFUSED;
        }
        layOut(chosenWidth);
        return rowOf[piece];
    }

    public int column(int piece) {
        if (!isPiece(piece)) {
            return REFUSED;
        }
        layOut(chosenWidth);
        return columnOf[piece];
    }

    public int flat(int piece) {
        if (!isPiece(piece) || kindOf[piece] != OPEN) {
            return REFUSED;
        }
        layOut(chosenWidth);
        return flatOf[piece] ? 1 : 0;
    }

    public int rows() {
        layOut(chosenWidth);
        return presentRow + 1;
    }

    public int widest() {
        layOut(chosenWidth);
        return greatestColumn;
    }

    public int leastWidth(int rows) {
        // Every width is tried in turn, because a greater width can also need more rows:
        // a group that becomes flat can push a later one over the edge.
        for (int width = NARROWEST; width <= BROADEST; width++) {
            layOut(width);
            if (presentRow + 1 <= rows) {
                return width;
            }
        }
        return BROADEST + 1;
    }

    private static int withinLimits(int width) {
        if (width < NARROWEST) {
            return NARROWEST;
        }
        return width > BROADEST ? BROADEST : width;
    }

    private boolean isFull() {
        return pieces >= MOST_PIECES;
    }

    private boolean isPiece(int piece) {
        return piece >= 0 && piece < pieces;
    }

    /** Only for a document that is not full. */
    private int add(int kind, int length) {
        kindOf[pieces] = kind;
        lengthOf[pieces] = length;
        groupOf[pieces] = innermost;
        pieces++;
        return pieces;
    }

    private void layOut(int width) {
        presentRow = 0;
        presentColumn = 0;
        greatestColumn = 0;
        for (int piece = 0; piece < pieces; piece++) {
            place(piece, width);
        }
    }

    private void place(int piece, int width) {
        rowOf[piece] = presentRow;
        columnOf[piece] = presentColumn;
        if (kindOf[piece] == OPEN) {
            flatOf[piece] = becomesFlat(piece, width);
        }
        if (kindOf[piece] == BREAK && !isFlatInside(groupOf[piece])) {
            presentRow++;
            presentColumn = marginInside(groupOf[piece]);
        } else {
            presentColumn += lengthOf[piece];
        }
        // A margin can be the greatest column too, so the look comes behind every piece.
        if (presentColumn > greatestColumn) {
            greatestColumn = presentColumn;
        }
    }

    private boolean becomesFlat(int open, int width) {
        if (isFlatInside(groupOf[open])) {
            return true;
        }
        int reached = presentColumn + reach(open);
        return reached <= width;
    }

    private int reach(int open) {
        int sum = 0;
        for (int piece = open + 1; piece < pieces; piece++) {
            if (kindOf[piece] == BREAK && piece > closeOf[open]) {
                break;
            }
            sum += lengthOf[piece];
        }
        return sum;
    }

    private boolean isFlatInside(int group) {
        return group != NO_GROUP && flatOf[group];
    }

    private int marginInside(int group) {
        return group == NO_GROUP ? 0 : marginOf[group];
    }
}

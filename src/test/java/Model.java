import java.util.ArrayList;
import java.util.List;

/**
 * The document's words told once more in another way, as a tree of groups: slow, with the library,
 * and sharing no thought with the program beyond the document.
 */
final class Model {
    private static final class Group {
        final Group outer;
        final int indent;
        final int open;
        int close = -1;
        boolean flat;

        Group(Group outer, int indent, int open) {
            this.outer = outer;
            this.indent = indent;
            this.open = open;
        }

        int margin() {
            return indent + (outer == null ? 0 : outer.margin());
        }

        boolean insideFlat() {
            return outer != null && (outer.flat || outer.insideFlat());
        }
    }

    // A word is its length, a break 0, an open or close null.
    private final List<Integer> texts = new ArrayList<>();
    private final List<Group> groups = new ArrayList<>();
    private int width;
    private final List<int[]> places = new ArrayList<>();
    private int widest;

    Model(int width) {
        width(width);
    }

    void width(int width) {
        this.width = Math.max(1, Math.min(100, width));
    }

    int word(int length) {
        return length < 1 || length > 20 ? -1 : add(length);
    }

    int lineBreak() {
        return add(0);
    }

    int open(int indent) {
        long unclosed = groups.stream().filter(group -> group.close < 0).count();
        if (indent < 0 || indent > 8 || unclosed == 12 || texts.size() == 60) {
            return -1;
        }
        groups.add(new Group(innermost(texts.size()), indent, texts.size()));
        return add(null);
    }

    int close() {
        Group last = innermost(texts.size());
        if (last == null || texts.size() == 60) {
            return -1;
        }
        last.close = texts.size();
        return add(null);
    }

    private int add(Integer text) {
        if (texts.size() == 60) {
            return -1;
        }
        texts.add(text);
        return texts.size();
    }

    private Group innermost(int piece) {
        Group found = null;
        for (Group group : groups) {
            if (group.open < piece && (group.close < 0 || piece < group.close)) {
                found = group;
            }
        }
        return found;
    }

    private Group openedAt(int piece) {
        return groups.stream().filter(group -> group.open == piece).findAny().orElse(null);
    }

    private int sum(int from, int to) {
        int sum = 0;
        for (Integer text : texts.subList(from, to)) {
            sum += text == null ? 0 : Math.max(1, text);
        }
        return sum;
    }

    private int reach(Group group) {
        if (group.close < 0) {
            return sum(group.open, texts.size());
        }
        int end = group.close;
        while (end < texts.size() && !Integer.valueOf(0).equals(texts.get(end))) {
            end++;
        }
        return sum(group.open, group.close) + sum(group.close, end);
    }

    // The places have one entry more than there are pieces: the end of the document.
    private void layOut(int forWidth) {
        places.clear();
        int row = 0;
        int column = 0;
        widest = 0;
        for (int piece = 0; piece < texts.size(); piece++) {
            places.add(new int[] {row, column});
            Integer text = texts.get(piece);
            Group inside = innermost(piece);
            Group opened = openedAt(piece);
            if (opened != null) {
                opened.flat = opened.insideFlat() || column + reach(opened) <= forWidth;
            } else if (text != null && text > 0) {
                column += text;
            } else if (text != null && inside != null && inside.flat) {
                column += 1;
            } else if (text != null) {
                row += 1;
                column = inside == null ? 0 : inside.margin();
            }
            widest = Math.max(widest, column);
        }
        places.add(new int[] {row, column});
    }

    private int place(int piece, int which) {
        layOut(width);
        return piece < 0 || piece >= texts.size() ? -1 : places.get(piece)[which];
    }

    int row(int piece) {
        return place(piece, 0);
    }

    int column(int piece) {
        return place(piece, 1);
    }

    int flat(int piece) {
        layOut(width);
        Group group = openedAt(piece);
        return group == null ? -1 : group.flat ? 1 : 0;
    }

    int rows() {
        layOut(width);
        return places.get(texts.size())[0] + 1;
    }

    int widest() {
        layOut(width);
        return widest;
    }

    int leastWidth(int rows) {
        int least = 101;
        for (int tried = 100; tried >= 1; tried--) {
            layOut(tried);
            if (places.get(texts.size())[0] + 1 <= rows) {
                least = tried;
            }
        }
        return least;
    }
}

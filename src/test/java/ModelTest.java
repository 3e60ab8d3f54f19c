/** All promises: long runs of mixed calls, each answer compared with the model's. */
public final class ModelTest {
    private static final int RUNS = 400;
    private static final int CALLS = 512;
    private static final int[] WILD = {Integer.MIN_VALUE, -1, 0, 101, Integer.MAX_VALUE};

    // A fixed row of numbers, so that every run of the test makes the same calls.
    private long state = 20261116L;

    public static void main(String[] args) {
        ModelTest test = new ModelTest();
        for (int run = 0; run < RUNS; run++) {
            test.run(run);
        }
        Checks.end();
    }

    private int below(int bound) {
        state = state * 6364136223846793005L + 1442695040888963407L;
        return (int) ((state >>> 33) % bound);
    }

    private int number(int from, int to) {
        return below(25) == 0 ? WILD[below(WILD.length)] : from + below(to - from + 1);
    }

    private void run(int run) {
        int first = number(0, 60);
        PrettyStream program = new PrettyStream(first);
        Model model = new Model(first);
        // Short words leave more groups near the edge; slow growth asks more between the pieces.
        int longest = run % 2 == 0 ? 5 : 21;
        int growth = 2 + run % 9;
        // Few closes let some runs come to twelve groups without a close.
        int closes = run % 3 == 0 ? 0 : 2;
        for (int call = 0; call < CALLS; call++) {
            String where = "run " + run + ", call " + call + ": ";
            if (below(growth) == 0) {
                grow(where, program, model, longest, closes);
            } else {
                ask(where, program, model);
            }
        }
    }

    private void grow(String where, PrettyStream program, Model model, int longest, int closes) {
        int kind = below(9 + closes);
        if (kind < 3) {
            int length = number(0, longest);
            Checks.due(where + "word(" + length + ")", program.word(length), model.word(length));
        } else if (kind < 6) {
            Checks.due(where + "lineBreak()", program.lineBreak(), model.lineBreak());
        } else if (kind < 8) {
            int indent = number(-1, 9);
            Checks.due(where + "open(" + indent + ")", program.open(indent), model.open(indent));
        } else {
            Checks.due(where + "close()", program.close(), model.close());
        }
    }

    private void ask(String where, PrettyStream program, Model model) {
        int piece = number(-1, 60);
        switch (below(8)) {
            case 0 -> Checks.due(where + "row(" + piece + ")", program.row(piece), model.row(piece));
            case 1 -> Checks.due(where + "column(" + piece + ")", program.column(piece), model.column(piece));
            case 2, 3 -> Checks.due(where + "flat(" + piece + ")", program.flat(piece), model.flat(piece));
            case 4 -> Checks.due(where + "rows()", program.rows(), model.rows());
            case 5 -> Checks.due(where + "widest()", program.widest(), model.widest());
            case 6 -> {
                int rows = number(0, 20);
                Checks.due(where + "leastWidth(" + rows + ")", program.leastWidth(rows), model.leastWidth(rows));
            }
            default -> {
                int width = number(0, 100);
                program.width(width);
                model.width(width);
            }
        }
    }
}

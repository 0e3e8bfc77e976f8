/**
 * Every call with every mixture of numbers at, just within and just beyond the document's bounds, in every
 * kind of state, on AimFronts and on the plain model: the same answers, and the same view afterwards.
 */
public final class SweepTest {
    private static final int NONE = AimFronts.NONE;
    private static final int LEAST = Integer.MIN_VALUE, MOST = Integer.MAX_VALUE;
    private static final int[] COLUMNS = {LEAST, -1, 0, 1, 2, 7, 8, MOST};
    private static final int[] AIMS = {LEAST, NONE, -1, 0, 1, 3, 4, MOST};
    private static final int[] PLACES = {LEAST, -1, 0, 1, 2, 4, 12, 13, 99, 100, 1999, 2000, MOST};
    private static final int[] FACTORS = {LEAST, -10, -9, 0, 9, 10, MOST};

    private static final String SMALL = "column 0 3, column -1 1, row 3, term 0 0 1, aim, aim, cost 0 0 1, cost 0 1 2,"
        + " cost 1 0 -2, cost 1 1 1, ";
    private static final String LINE = "column -20 20, aim, aim, cost 0 0 1, cost 1 0 -1, ";
    private static final String[] STATES = {
        "",
        "column 0 3, column -1 1, row 3, term 0 0 1",
        "aim, row 0, run 1, cover 0, climb 0",
        SMALL,
        SMALL + "run 5, cover 1, climb 2",
        SMALL + "aim, cost 2 1 -3, part 0 -1 4, run 2000, cover 1, climb 4",
        SMALL + "part 0 9 9, run 2000",
        LINE + "run 12, cover 3, climb 7",
        LINE + "run 13, cover 3, climb 7",
        "column 0 4, column 0 20, aim, aim, aim, aim, cost 0 0 1, cost 1 0 -1, cost 2 1 1, cost 3 1 -1, run 101, climb 9",
        Script.times(7, "column 0 1") + "column 5 6, " + Script.times(8, "row 9") + "aim, aim, aim, aim, term 7 7 1,"
            + " cost 0 7 2, cost 3 7 -9, cost 1 0 -1, cost 2 6 1, run 9, cover 0, climb 1"
    };

    private final String state;
    private AimFronts real;
    private PlainModel plain;
    private int asked;

    private SweepTest(String state) {
        this.state = state;
    }

    public static void main(String[] args) {
        for (String state : STATES) {
            new SweepTest(state).go();
        }
        Check.end();
    }

    private void go() {
        sweepSetUp();
        sweepAsks();
        sweepFours("weighted", new int[] {LEAST, -1, 0, 1, 100, 101});
        sweepFours("first", new int[] {NONE, -1, 0, 1, 3, 4});
        sweepFours("under", new int[] {LEAST, -2049, -1, 0, 2, MOST});
    }

    private void sweepSetUp() {
        int[] numbers = {LEAST, -21, -20, -1, 0, 1, 19, 20, 21, MOST};
        sweep(true, "column", numbers, numbers);
        sweep(true, "row", new int[] {LEAST, -1001, -1000, 0, 1000, 1001, MOST});
        sweep(true, "term", COLUMNS, COLUMNS, FACTORS);
        sweep(true, "aim");
        sweep(true, "cost", AIMS, COLUMNS, FACTORS);
        int[] scores = {LEAST, -2001, -2000, 0, 1, 2000, 2001, MOST};
        sweep(true, "part", AIMS, scores, scores);
        sweep(true, "clear");
        sweep(true, "run", new int[] {LEAST, -1, 0, 1, 3, 1999, 2000, 2001, MOST});
        sweep(true, "cover", new int[] {LEAST, -1, 0, 1, 2, 3999, 4000, 4001, MOST});
        sweep(true, "climb", PLACES);
    }

    private void sweepAsks() {
        sweep(false, "left");
        sweep(false, "plans");
        sweep(false, "score", PLACES, AIMS);
        sweep(false, "plan", PLACES, COLUMNS);
        sweep(false, "ties", PLACES);
        sweep(false, "ideal", AIMS);
        sweep(false, "nadir", AIMS);
        sweep(false, "knee", new int[] {LEAST, -1, 0, 1, 2, MOST});
        sweep(false, "picked", PLACES);
        sweep(false, "boxes");
        sweep(false, "box", PLACES, AIMS);
        sweep(false, "volume");
        sweep(false, "climbed", COLUMNS);
    }

    private void sweepFours(String name, int[] numbers) {
        sweep(false, name, numbers, numbers, numbers, numbers);
    }

    /** After a call that changed something comes a new object; of the others a hundred are made on the same one. */
    private void sweep(boolean changes, String name, int[]... numbers) {
        begin();
        int[] chosen = new int[numbers.length];
        do {
            boolean refused = Script.isRefusal(ask(name, numbers, chosen));
            if (changes && !refused || asked == 100) {
                end(name);
                begin();
            }
        } while (next(chosen, numbers));
        end(name);
    }

    private static boolean next(int[] chosen, int[][] numbers) {
        for (int i = chosen.length - 1; i >= 0; i--) {
            if (++chosen[i] < numbers[i].length) {
                return true;
            }
            chosen[i] = 0;
        }
        return false;
    }

    private void begin() {
        real = Script.made(state);
        plain = Script.played(new PlainModel(), state);
        asked = 0;
    }

    private long ask(String name, int[][] numbers, int[] chosen) {
        StringBuilder call = new StringBuilder(name);
        for (int i = 0; i < chosen.length; i++) {
            call.append(' ').append(numbers[i][chosen[i]]);
        }
        long answer = Script.answer(real, call.toString());
        Check.due(call + " after [" + state + "]", answer, Script.answer(plain, call.toString()));
        asked++;
        return answer;
    }

    private void end(String name) {
        Check.holds("the view with " + name + " after [" + state + "]", View.of(real).equals(View.of(plain)));
    }
}

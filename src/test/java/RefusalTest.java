/** Each OUTSIDE, STATE and ROOM of each promise, which of them comes first, and that nothing changes then. */
public final class RefusalTest {
    private static final int NONE = AimFronts.NONE, OUTSIDE = AimFronts.OUTSIDE;
    private static final int STATE = AimFronts.STATE, ROOM = AimFronts.ROOM;
    private static final int LEAST = Integer.MIN_VALUE, MOST = Integer.MAX_VALUE;

    private static final String NEW = "";
    private static final String NO_AIM = "column 0 4, row 3, term 0 0 1";
    private static final String NO_COLUMN = "row 3, aim, run 1, cover 2, climb 0";
    private static final String SET = "column 0 4, column 2 3, row 5, term 0 0 1, term 0 1 1, aim, aim,"
        + " cost 0 0 1, cost 1 0 -2, cost 1 1 3, part 1 1 20, ";
    private static final String NOT_RUN = SET + "climb 1";
    /** Something to be lost everywhere: points gone through and left, a cover, a climb, boxes. */
    private static final String BUSY = SET + "run 7, cover 1, climb 5, boxes";
    private static final String ALL_GONE = SET + "run 2000, cover 0, climb 1";
    private static final String NO_PLAN = SET + "part 0 -9 -8, run 7";
    private static final String FULL = Script.times(6, "column 0 1") + "column 3 3, column 1 4, "
        + Script.times(8, "row 9") + "aim, aim, aim, aim, term 7 7 4, term 0 0 1, cost 3 7 -1, cost 0 7 1, cost 1 0 1,"
        + " part 2 -1 1, run 40, cover 0, climb 9";
    private static final String POINTS_2000 = "column -20 19, column 0 9, column 3 7, aim, aim, cost 0 0 1, cost 1 0 -1,"
        + " part 0 0 3, run 1990, cover 0, climb 1000";
    private static final String SCORES_13 = "column -20 20, aim, aim, cost 0 0 1, cost 1 0 -1, run 12, cover 1, run 1,"
        + " cover 2, climb 3";
    private static final String SCORES_101 = "column 0 4, column 0 20, aim, aim, aim, aim, cost 0 0 1, cost 1 0 -1,"
        + " cost 2 1 1, cost 3 1 -1, run 100, cover 5, run 1, climb 3";

    public static void main(String[] args) {
        column();
        row();
        term();
        aim();
        cost();
        part();
        run();
        scorePlanTies();
        idealAndNadir();
        knee();
        weighted();
        first();
        cover();
        picked();
        boxesAndBox();
        climb();
        climbed();
        manyRefusalsInARow();
        Check.end();
    }

    private static void refused(String state, String call, int due) {
        AimFronts x = Script.made(state);
        Check.due(call + " after [" + state + "]", Script.answer(x, call), due);
        String untouched = View.of(Script.made(state));
        Check.holds(call + " changes nothing after [" + state + "]", View.of(x).equals(untouched));
    }

    private static void eachRefused(String[] states, String[] calls, int due) {
        for (String state : states) {
            for (String call : calls) {
                refused(state, call, due);
            }
        }
    }

    private static void column() {
        String[] outside = {"column -21 0", "column 0 21", "column 1 0", "column 21 21", "column -21 -21",
            "column " + LEAST + " " + MOST, "column " + MOST + " " + LEAST, "column 20 -20"};
        // OUTSIDE comes first where there is no room either: eight columns, or 2000 points.
        eachRefused(new String[] {NEW, BUSY, FULL, POINTS_2000}, outside, OUTSIDE);
        eachRefused(new String[] {FULL}, new String[] {"column 0 0", "column -20 20"}, ROOM);
        eachRefused(new String[] {POINTS_2000}, new String[] {"column 0 1", "column -20 20"}, ROOM);
    }

    private static void row() {
        String[] outside = {"row -1001", "row 1001", "row " + LEAST, "row " + MOST};
        eachRefused(new String[] {NEW, BUSY, FULL}, outside, OUTSIDE);
        eachRefused(new String[] {FULL}, new String[] {"row -1000", "row 0", "row 1000"}, ROOM);
    }

    private static void term() {
        String[] outside = {"term -1 0 2", "term 8 0 2", "term 0 -1 2", "term 0 8 2", "term 0 0 10", "term 0 0 -10",
            "term " + MOST + " " + LEAST + " " + MOST};
        eachRefused(new String[] {NEW, BUSY, FULL}, outside, OUTSIDE);
        eachRefused(new String[] {BUSY}, new String[] {"term 1 0 2", "term 0 2 2"}, OUTSIDE);
        refused(NO_COLUMN, "term 0 0 0", OUTSIDE);
    }

    private static void aim() {
        refused(FULL, "aim", ROOM);
        refused(SCORES_101, "aim", ROOM);
    }

    private static void cost() {
        String[] outside = {"cost -1 0 2", "cost 4 0 2", "cost 0 -1 2", "cost 0 8 2", "cost 0 0 10", "cost 0 0 -10",
            "cost " + MOST + " " + LEAST + " " + MOST};
        eachRefused(new String[] {NEW, NO_AIM, BUSY, FULL}, outside, OUTSIDE);
        eachRefused(new String[] {BUSY}, new String[] {"cost 2 0 2", "cost 0 2 2"}, OUTSIDE);
        refused(NO_AIM, "cost 0 0 0", OUTSIDE);
        refused(NO_COLUMN, "cost 0 0 0", OUTSIDE);
    }

    private static void part() {
        String[] outside = {"part -1 0 0", "part 4 0 0", "part 0 -2001 0", "part 0 0 2001", "part 0 1 0",
            "part 0 2001 2001", "part 0 -2001 -2001", "part 0 " + LEAST + " " + MOST, "part 0 2000 -2000"};
        eachRefused(new String[] {NEW, NO_AIM, BUSY, FULL}, outside, OUTSIDE);
        refused(BUSY, "part 2 0 0", OUTSIDE);
    }

    private static void run() {
        String[] outside = {"run -1", "run 2001", "run " + LEAST, "run " + MOST};
        // Without an aim, too: OUTSIDE ahead of STATE.
        eachRefused(new String[] {NEW, NO_AIM, NOT_RUN, BUSY, ALL_GONE}, outside, OUTSIDE);
        eachRefused(new String[] {NEW, NO_AIM}, new String[] {"run 0", "run 1", "run 2000"}, STATE);
    }

    private static void scorePlanTies() {
        String[] outside = {"score -1 0", "score 0 -1", "score 0 4", "score 2000 0", "score " + MOST + " " + LEAST,
            "plan -1 0", "plan 0 -1", "plan 0 8", "plan 2000 0", "plan " + LEAST + " " + MOST,
            "ties -1", "ties 2000", "ties " + LEAST, "ties " + MOST};
        eachRefused(new String[] {NEW, NO_AIM, NO_COLUMN, BUSY, ALL_GONE, FULL}, outside, OUTSIDE);
        eachRefused(new String[] {NEW, NO_AIM, NOT_RUN, NO_PLAN}, new String[] {"score 0 0", "plan 0 0", "ties 0"}, OUTSIDE);
    }

    private static void idealAndNadir() {
        String[] outside = {"ideal -1", "ideal 4", "ideal " + LEAST, "ideal " + MOST, "nadir -1", "nadir 4",
            "nadir " + LEAST, "nadir " + MOST};
        // Without a score, too: OUTSIDE ahead of STATE.
        eachRefused(new String[] {NEW, NO_AIM, NOT_RUN, NO_PLAN, BUSY, FULL}, outside, OUTSIDE);
        eachRefused(new String[] {NEW, NO_AIM}, new String[] {"ideal 0", "nadir 0"}, OUTSIDE);
        eachRefused(new String[] {NOT_RUN, NO_PLAN}, new String[] {"ideal 0", "ideal 1", "nadir 0", "nadir 1"}, STATE);
        eachRefused(new String[] {NOT_RUN, NO_PLAN, BUSY}, new String[] {"ideal 2", "nadir 2"}, OUTSIDE);
    }

    private static void knee() {
        String[] outside = {"knee -1", "knee 2", "knee " + LEAST, "knee " + MOST};
        eachRefused(new String[] {NEW, NO_AIM, NOT_RUN, NO_PLAN, BUSY}, outside, OUTSIDE);
        eachRefused(new String[] {NEW, NO_AIM, NOT_RUN, NO_PLAN}, new String[] {"knee 0", "knee 1"}, STATE);
    }

    private static void weighted() {
        String[] outside = {"weighted -1 0 0 0", "weighted 101 1 1 1", "weighted 0 -1 0 0", "weighted 0 101 0 0",
            "weighted " + LEAST + " " + MOST + " 0 0"};
        // Without a score or with all other weights 0, too: OUTSIDE ahead of STATE.
        eachRefused(new String[] {NOT_RUN, NO_PLAN, BUSY, FULL}, outside, OUTSIDE);
        eachRefused(new String[] {NEW, NO_AIM}, outside, STATE);
        eachRefused(new String[] {NEW, NO_AIM, NOT_RUN, NO_PLAN}, new String[] {"weighted 1 1 1 1"}, STATE);
        eachRefused(new String[] {NEW, NO_AIM, NOT_RUN, NO_PLAN, BUSY, FULL}, new String[] {"weighted 0 0 0 0"}, STATE);
        eachRefused(new String[] {BUSY}, new String[] {"weighted 0 0 1 1", "weighted 0 0 -1 101"}, STATE);
        eachRefused(new String[] {FULL}, new String[] {"weighted 1 1 -1 1", "weighted 1 1 1 101"}, OUTSIDE);
    }

    private static void first() {
        String[] outside = {"first -1 0 0 0", "first 4 0 0 0", "first 0 -1 0 0", "first 0 0 4 0", "first 0 0 0 -1",
            "first 0 0 0 4", "first " + MOST + " 0 0 0", "first 0 0 0 " + LEAST, "first 4 " + NONE + " 0 0"};
        // Without a score, too: OUTSIDE ahead of STATE.
        eachRefused(new String[] {NEW, NO_AIM, NOT_RUN, NO_PLAN, BUSY, FULL}, outside, OUTSIDE);
        eachRefused(new String[] {NEW, NO_AIM}, new String[] {"first 0 0 0 0"}, OUTSIDE);
        eachRefused(new String[] {NOT_RUN, NO_PLAN}, new String[] {"first 0 1 1 0", "first 1 " + NONE + " 9 9"}, STATE);
        eachRefused(new String[] {NEW, NO_AIM, NOT_RUN, NO_PLAN}, new String[] {"first " + NONE + " -1 9 9"}, STATE);
    }

    private static void cover() {
        String[] outside = {"cover -1", "cover 4001", "cover " + LEAST, "cover " + MOST};
        // With more than 100 scores, too: OUTSIDE ahead of STATE.
        eachRefused(new String[] {NEW, NO_AIM, NOT_RUN, BUSY, ALL_GONE, SCORES_101}, outside, OUTSIDE);
        eachRefused(new String[] {SCORES_101}, new String[] {"cover 0", "cover 4000"}, STATE);
    }

    private static void picked() {
        String[] outside = {"picked -1", "picked 100", "picked " + LEAST, "picked " + MOST};
        eachRefused(new String[] {NEW, NOT_RUN, BUSY, ALL_GONE}, outside, OUTSIDE);
        eachRefused(new String[] {NEW, NO_AIM, NOT_RUN, NO_PLAN, SCORES_101}, new String[] {"picked 0"}, OUTSIDE);
    }

    private static void boxesAndBox() {
        eachRefused(new String[] {NEW, NO_AIM, NOT_RUN, NO_PLAN, SCORES_13, SCORES_101}, new String[] {"boxes"}, STATE);
        String[] noAim = {"box 0 -1", "box 0 4", "box 0 " + LEAST, "box 0 " + MOST, "box -1 -1", "box " + MOST + " 4"};
        // No such aim comes ahead of STATE; STATE ahead of no such box.
        eachRefused(new String[] {NEW, NO_AIM, NOT_RUN, NO_PLAN, BUSY, SCORES_13, SCORES_101}, noAim, OUTSIDE);
        eachRefused(new String[] {NEW, NO_AIM}, new String[] {"box 0 0", "box -1 0"}, OUTSIDE);
        String[] noBox = {"box -1 0", "box 3000 1", "box " + LEAST + " 0", "box " + MOST + " 1"};
        eachRefused(new String[] {NOT_RUN, NO_PLAN, SCORES_13, SCORES_101}, noBox, STATE);
        eachRefused(new String[] {NOT_RUN, NO_PLAN, SCORES_13, SCORES_101}, new String[] {"box 0 0", "box 0 1"}, STATE);
        eachRefused(new String[] {BUSY, ALL_GONE}, noBox, OUTSIDE);
        eachRefused(new String[] {SCORES_13}, new String[] {"box 0 2"}, OUTSIDE);
    }

    private static void climb() {
        String[] outside = {"climb -1", "climb 2000", "climb " + LEAST, "climb " + MOST};
        // Without an aim, too: OUTSIDE ahead of STATE.
        eachRefused(new String[] {NEW, NO_AIM, NO_COLUMN, BUSY, POINTS_2000}, outside, OUTSIDE);
        eachRefused(new String[] {NEW, NO_COLUMN}, new String[] {"climb 1"}, OUTSIDE);
        eachRefused(new String[] {BUSY}, new String[] {"climb 10"}, OUTSIDE);
        refused(NEW, "climb 0", STATE);
        eachRefused(new String[] {NO_AIM}, new String[] {"climb 0", "climb 4"}, STATE);
        // Point 6, (3, 2), has 0 in aim 1, and its part begins at 1; from point 7, (3, 3), on the row's sum is above 5.
        eachRefused(new String[] {NOT_RUN, BUSY, ALL_GONE}, new String[] {"climb 6", "climb 7", "climb 9"}, STATE);
        // All points are outside of the part.
        eachRefused(new String[] {NO_PLAN}, new String[] {"climb 0", "climb 9"}, STATE);
    }

    private static void climbed() {
        String[] outside = {"climbed -1", "climbed 8", "climbed " + LEAST, "climbed " + MOST};
        // Before a climb, too: OUTSIDE ahead of STATE.
        eachRefused(new String[] {NEW, NO_AIM, NO_COLUMN, SET, NO_PLAN, BUSY, FULL}, outside, OUTSIDE);
        eachRefused(new String[] {NEW, NO_COLUMN}, new String[] {"climbed 0"}, OUTSIDE);
        eachRefused(new String[] {SET, NO_PLAN}, new String[] {"climbed 0", "climbed 1"}, STATE);
        eachRefused(new String[] {SET, BUSY}, new String[] {"climbed 2"}, OUTSIDE);
    }

    /** One refusal after another leaves the object as it was, too. */
    private static void manyRefusalsInARow() {
        String[] calls = {"column 1 0", "row 1001", "term 0 0 10", "cost 0 0 10", "part 0 1 0", "run 2001", "score 9 0",
            "plan 9 0", "ties 9", "ideal 2", "nadir 2", "knee 2", "weighted 0 0 0 0", "first 2 0 0 0", "cover 4001",
            "picked 9", "box 99 0", "climb 7", "climbed 2"};
        AimFronts x = Script.made(BUSY);
        for (String call : calls) {
            Check.holds(call + " is refused", Script.isRefusal(Script.answer(x, call)));
        }
        Check.holds("all of them change nothing", View.of(x).equals(View.of(Script.made(BUSY))));
    }
}

/** What begins anew and what does not: the last paragraph of the document's 'Terms'. */
public final class AnewTest {
    private static final int OUTSIDE = AimFronts.OUTSIDE, STATE = AimFronts.STATE;
    private static final String SET = "column 0 4, column 2 3, row 5, term 0 0 1, term 0 1 1, aim, aim,"
        + " cost 0 0 1, cost 1 0 -2, cost 1 1 3, part 1 -6 20, ";
    private static final String[] BUSY = {"run 7, cover 1, climb 5, boxes, volume", "run 2000, cover 0, boxes", "climb 1",
        "run 0, cover 3", "run 2000, climb 5, run 3"};

    public static void main(String[] args) {
        setUpBeginsAnew();
        isAnewIndeed();
        runEndsTheCover();
        runKeepsTheClimb();
        coverTakesThePlaceOfTheLast();
        climbTakesThePlaceOfTheLast();
        asksChangeNothing();
        clearThenAsBefore();
        smallerFrontThanBefore();
        Check.end();
    }

    /** After the call the object is as if nothing had been gone through, picked or climbed before it. */
    private static void setUpBeginsAnew() {
        String[] calls = {"column 1 2", "column 0 0", "row 3", "row 1000", "term 0 0 -1", "term 0 0 1", "aim",
            "cost 0 0 2", "cost 0 0 1", "part 0 0 3", "part 1 -6 20", "clear"};
        for (String call : calls) {
            String due = View.of(Script.made(SET + call));
            for (String busy : BUSY) {
                String got = View.of(Script.made(SET + busy + ", " + call));
                Check.holds(call + " begins anew after [" + busy + "]", got.equals(due));
            }
        }
    }

    /** The same, seen by numbers, when the call sets what is there already. */
    private static void isAnewIndeed() {
        String[] calls = {"term 0 0 1", "cost 0 0 1", "part 1 -6 20"};
        for (String call : calls) {
            AimFronts x = Script.made(SET + BUSY[0]);
            Check.due("left() ahead of " + call, x.left(), 3);
            Check.due("climbed(0) ahead of " + call, x.climbed(0) >= 0 ? 1 : 0, 1);
            Check.due("picked(0) ahead of " + call, x.picked(0) >= 0 ? 1 : 0, 1);
            Script.played(x, call);
            Check.due("left() after " + call, x.left(), 10);
            Check.due("plans() after " + call, x.plans(), 0);
            Check.due("ties(0) after " + call, x.ties(0), OUTSIDE);
            Check.due("picked(0) after " + call, x.picked(0), OUTSIDE);
            Check.due("climbed(0) after " + call, x.climbed(0), STATE);
            Check.due("volume() after " + call, x.volume(), 0);
        }
    }

    /** Even a run of no point, or with none left. */
    private static void runEndsTheCover() {
        String[] runs = {"run 0", "run 1", "run 2000"};
        for (String run : runs) {
            AimFronts x = Script.made(SET + "run 5, cover 0, " + run);
            Check.due("picked(0) after run 5, cover 0, " + run, x.picked(0), OUTSIDE);
            x = Script.made(SET + "run 2000, cover 0, " + run);
            Check.due("picked(0) after run 2000, cover 0, " + run, x.picked(0), OUTSIDE);
        }
    }

    private static void runKeepsTheClimb() {
        String due = View.of(Script.made(SET + "run 7, climb 5"));
        Check.holds("a climb may come ahead of a run", View.of(Script.made(SET + "climb 5, run 7")).equals(due));
        Check.holds("or between two", View.of(Script.made(SET + "run 3, climb 5, run 4")).equals(due));
    }

    private static void coverTakesThePlaceOfTheLast() {
        String due = View.of(Script.made(SET + "run 2000, cover 3"));
        Check.holds("cover 3 after cover 0", View.of(Script.made(SET + "run 2000, cover 0, cover 3")).equals(due));
        AimFronts x = Script.made("cover 0");
        Check.due("picked(0) of none", x.picked(0), OUTSIDE);
    }

    private static void climbTakesThePlaceOfTheLast() {
        String due = View.of(Script.made(SET + "run 3, climb 1"));
        Check.holds("climb 1 after climb 5", View.of(Script.made(SET + "run 3, climb 5, climb 1")).equals(due));
    }

    private static void asksChangeNothing() {
        String[] asks = {"left", "plans", "score 0 1", "plan 0 1", "ties 0", "ideal 1", "nadir 0", "knee 0", "knee 1",
            "weighted 1 2 3 4", "first 1 0 0 0", "under 9 9 9 9", "picked 0", "boxes", "box 0 0", "volume", "climbed 1"};
        String state = SET + "run 7, cover 1, climb 5, ";
        String due = View.of(Script.made(state));
        for (String ask : asks) {
            Check.holds(ask + " changes nothing", View.of(Script.made(state + ask)).equals(due));
        }
        Check.holds("all of them change nothing", View.of(Script.made(state + String.join(", ", asks))).equals(due));
    }

    /** An object that was full and is cleared is as a new one. */
    private static void clearThenAsBefore() {
        String full = Script.times(8, "column -1 0") + Script.times(8, "row -9") + "aim, aim, aim, aim, ";
        StringBuilder factors = new StringBuilder();
        for (int c = 0; c < 8; c++) {
            for (int r = 0; r < 8; r++) {
                factors.append("term ").append(r).append(' ').append(c).append(" 9, ");
            }
            for (int aim = 0; aim < 4; aim++) {
                factors.append("cost ").append(aim).append(' ').append(c).append(" -9, ");
            }
        }
        String parts = "part 0 5 7, part 1 5 7, part 2 -9 9, part 3 1 1, ";
        String cleared = full + factors + parts + "run 2000, clear, ";
        Check.holds("cleared: as new", View.of(Script.made(cleared)).equals(View.of(new AimFronts())));
        String again = Script.times(8, "column -1 0") + Script.times(8, "row 0") + "aim, aim, aim, aim, run 2000, climb 3";
        String due = View.of(Script.made(again));
        Check.holds("cleared and full again", View.of(Script.made(cleared + again)).equals(due));
    }

    /** Nothing is left of 41 scores when there are three, with a number in aim 1 that the 41 had, too. */
    private static void smallerFrontThanBefore() {
        AimFronts x = Script.made("column -20 20, aim, aim, cost 0 0 1, cost 1 0 -1, run 2000, cost 1 0 -9, run 2000,"
            + " cost 1 0 -1, part 0 -20 -18");
        Check.due("smaller: run(2000)", x.run(2000), 3);
        Check.due("smaller: ideal(0)", x.ideal(0), -20);
        Check.due("smaller: ideal(1)", x.ideal(1), 18);
        Check.due("smaller: nadir(0)", x.nadir(0), -18);
        Check.due("smaller: nadir(1)", x.nadir(1), 20);
        Check.due("smaller: ties(3)", x.ties(3), OUTSIDE);
        Check.due("smaller: knee(1)", x.knee(1), 1);
        Check.due("smaller: weighted(0, 1, 0, 0)", x.weighted(0, 1, 0, 0), 2);
        Check.due("smaller: first(1, 1, 1, 1)", x.first(1, 1, 1, 1), 2);
        Check.due("smaller: under(0, 0, 0, 0)", x.under(0, 0, 0, 0), AimFronts.NONE);
        Check.due("smaller: cover(1)", x.cover(1), 1);
        Check.due("smaller: picked(0)", x.picked(0), 1);
        Check.due("smaller: boxes()", x.boxes(), 4);
        Check.due("smaller: box(3, 0)", x.box(3, 0), -17);
        Check.due("smaller: volume()", x.volume(), 6);
        x.part(0, -20, -19);
        Check.due("two: run(2000)", x.run(2000), 2);
        Check.due("two: cover(1)", x.cover(1), 1);
        Check.due("two: picked(0)", x.picked(0), 0);
    }
}

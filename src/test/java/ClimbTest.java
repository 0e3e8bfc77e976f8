/** Promises 26 and 27: climb, climbed. */
public final class ClimbTest {
    private static final int OUTSIDE = AimFronts.OUTSIDE, STATE = AimFronts.STATE;
    private static final int LEAST = Integer.MIN_VALUE, MOST = Integer.MAX_VALUE;

    public static void main(String[] args) {
        refusals();
        alongOneColumn();
        firstStepThatBeats();
        stopsAtRowsAndParts();
        eightColumns();
        withoutColumns();
        Check.end();
    }

    private static void refusals() {
        AimFronts x = new AimFronts();
        Check.due("26: climb(0) without an aim", x.climb(0), STATE);
        Check.due("26: climb(1): OUTSIDE ahead of STATE", x.climb(1), OUTSIDE);
        x.column(0, 3);
        x.aim();
        x.cost(0, 0, 1);
        x.row(2);
        x.term(0, 0, 1);
        Check.due("27: climbed(0) before a climb", x.climbed(0), STATE);
        Check.due("27: climbed(1): OUTSIDE ahead of STATE", x.climbed(1), OUTSIDE);
        Check.due("26: climb(-1)", x.climb(-1), OUTSIDE);
        Check.due("26: climb(4)", x.climb(4), OUTSIDE);
        Check.due("26: climb(MOST)", x.climb(MOST), OUTSIDE);
        Check.due("26: climb(LEAST)", x.climb(LEAST), OUTSIDE);
        Check.due("26: climb(3): no plan", x.climb(3), STATE);
        Check.due("27: climbed(0) after refusals", x.climbed(0), STATE);
        Check.due("26: climb(2)", x.climb(2), 2);
        Check.due("27: climbed(0)", x.climbed(0), 0);
        x.climb(0);
        x.climb(3);
        x.climb(4);
        Check.due("27: refused climbs leave the latest", x.climbed(0), 0);
        Check.due("27: climbed(-1)", x.climbed(-1), OUTSIDE);
        Check.due("27: climbed(MOST)", x.climbed(MOST), OUTSIDE);
    }

    private static void alongOneColumn() {
        AimFronts x = new AimFronts();
        x.column(-20, 20);
        x.aim();
        x.cost(0, 0, -1);
        Check.due("26: climb(0), none gone through", x.climb(0), 40);
        Check.due("27: climbed(0)", x.climbed(0), 20);
        Check.due("10: nothing is gone through by it", x.left(), 41);
        Check.due("26: climb(40)", x.climb(40), 0);
        x.cost(0, 0, 1);
        Check.due("26: climb(40)", x.climb(40), 40);
        Check.due("27: climbed(0)", x.climbed(0), -20);
        x.cost(0, 0, 0);
        Check.due("26: a like score beats nothing", x.climb(7), 0);
        Check.due("27: climbed(0)", x.climbed(0), -13);
    }

    private static void firstStepThatBeats() {
        AimFronts x = new AimFronts();
        x.column(0, 2);
        x.column(0, 2);
        x.aim();
        x.aim();
        // Column 0 one more gains; column 1 one less gains too, but comes later.
        x.cost(0, 0, -1);
        x.cost(1, 1, 1);
        x.row(3);
        x.term(0, 0, 2);
        x.term(0, 1, 1);
        // From (0, 2): column 0 to 1 would be 4, too much; so column 1 to 1, then column 0 to 1, then column 1 to 0.
        Check.due("26: climb(2)", x.climb(2), 3);
        Check.due("27: climbed(0)", x.climbed(0), 1);
        Check.due("27: climbed(1)", x.climbed(1), 0);
        // One less comes ahead of one more: only one of the two can gain in a line, so the columns decide.
        x.clear();
        x.column(0, 1);
        x.column(0, 1);
        x.row(1);
        x.term(0, 0, 1);
        x.term(0, 1, 1);
        x.aim();
        x.cost(0, 0, -1);
        x.cost(0, 1, -2);
        Check.due("26: climb(0) by column 0", x.climb(0), 1);
        Check.due("27: climbed(0)", x.climbed(0), 1);
        Check.due("27: climbed(1)", x.climbed(1), 0);
        // A gain in one aim with a loss in the other is none.
        x.aim();
        x.cost(1, 0, 1);
        Check.due("26: climb(0) by column 1", x.climb(0), 1);
        Check.due("27: climbed(0)", x.climbed(0), 0);
        Check.due("27: climbed(1)", x.climbed(1), 1);
    }

    private static void stopsAtRowsAndParts() {
        AimFronts x = new AimFronts();
        x.column(0, 9);
        x.aim();
        x.cost(0, 0, 2);
        x.part(0, 6, 14);
        Check.due("26: climb(2): below from", x.climb(2), STATE);
        Check.due("26: climb(8): above to", x.climb(8), STATE);
        Check.due("26: climb(7)", x.climb(7), 4);
        Check.due("27: climbed(0)", x.climbed(0), 3);
        x.run(2000);
        Check.due("27: run() leaves it", x.climbed(0), 3);
    }

    private static void eightColumns() {
        AimFronts x = new AimFronts();
        x.aim();
        for (int c = 0; c < 8; c++) {
            x.column(0, 1);
            x.cost(0, c, -1);
        }
        Check.due("26: climb(0) in eight columns", x.climb(0), 8);
        for (int c = 0; c < 8; c++) {
            Check.due("27: climbed(" + c + ")", x.climbed(c), 1);
        }
        // Point 1 has 1 in the last column alone.
        Check.due("26: climb(1) in eight columns", x.climb(1), 7);
        x.cost(0, 7, 1);
        Check.due("26: climb(1) with the last column dear", x.climb(1), 8);
        Check.due("27: climbed(7)", x.climbed(7), 0);
        Check.due("27: climbed(8)", x.climbed(8), OUTSIDE);
    }

    private static void withoutColumns() {
        AimFronts x = new AimFronts();
        x.aim();
        Check.due("26: climb(0) of the one point", x.climb(0), 0);
        Check.due("27: climbed(0)", x.climbed(0), OUTSIDE);
        x.row(-1);
        Check.due("26: climb(0) of no plan", x.climb(0), STATE);
    }
}

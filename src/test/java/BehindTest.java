/** Promises 23 to 25: boxes, box, volume. */
public final class BehindTest {
    private static final int NONE = AimFronts.NONE, OUTSIDE = AimFronts.OUTSIDE, STATE = AimFronts.STATE;
    private static final int LEAST = Integer.MIN_VALUE, MOST = Integer.MAX_VALUE;

    public static void main(String[] args) {
        ofNothing();
        oneAim();
        twoAims();
        threeAims();
        oneAimWithOneNumber();
        twelveAndThirteen();
        followTheFront();
        Check.end();
    }

    private static void boxesAre(AimFronts x, int[][] due) {
        Check.due("23: boxes()", x.boxes(), due.length);
        for (int i = 0; i < due.length; i++) {
            for (int a = 0; a < due[i].length; a++) {
                Check.due("24: box(" + i + ", " + a + ")", x.box(i, a), due[i][a]);
            }
        }
    }

    private static void ofNothing() {
        AimFronts x = new AimFronts();
        Check.due("23: boxes() of nothing", x.boxes(), STATE);
        Check.due("24: box(0, 0) without an aim", x.box(0, 0), OUTSIDE);
        Check.due("25: volume() of nothing", x.volume(), 0);
        x.aim();
        Check.due("23: boxes() before run", x.boxes(), STATE);
        Check.due("24: box(0, 0): STATE ahead of no such box", x.box(0, 0), STATE);
        Check.due("24: box(-1, 0): STATE ahead of no such box", x.box(-1, 0), STATE);
        Check.due("24: box(0, 1): no such aim ahead of STATE", x.box(0, 1), OUTSIDE);
        Check.due("25: volume() before run", x.volume(), 0);
    }

    private static void oneAim() {
        AimFronts x = new AimFronts();
        x.column(-5, 5);
        x.aim();
        x.cost(0, 0, 2);
        x.run(2000);
        Check.due("23: boxes()", x.boxes(), 1);
        Check.due("24: box(0, 0)", x.box(0, 0), -10);
        Check.due("24: box(1, 0)", x.box(1, 0), OUTSIDE);
        Check.due("25: volume()", x.volume(), 1);
    }

    private static void twoAims() {
        AimFronts x = new AimFronts();
        x.column(0, 2);
        x.aim();
        x.aim();
        x.cost(0, 0, 3);
        x.cost(1, 0, -2);
        x.run(3);
        int[][] due = {{0, 1}, {3, 0}, {6, -2}, {7, -4}};
        boxesAre(x, due);
        Check.due("24: box(4, 0)", x.box(4, 0), OUTSIDE);
        Check.due("24: box(-1, 0)", x.box(-1, 0), OUTSIDE);
        Check.due("24: box(MOST, 1)", x.box(MOST, 1), OUTSIDE);
        Check.due("24: box(LEAST, 1)", x.box(LEAST, 1), OUTSIDE);
        Check.due("24: box(0, 2)", x.box(0, 2), OUTSIDE);
        Check.due("24: box(0, -1)", x.box(0, -1), OUTSIDE);
        // From (0, 0) 7 by 1, from (3, -2) 4 by 2 more, from (6, -4) 1 by 2 more.
        Check.due("25: volume()", x.volume(), 17);
    }

    /** The six scores with the sum 2: numbers that several scores share. */
    private static void threeAims() {
        AimFronts x = new AimFronts();
        x.column(0, 2);
        x.column(0, 2);
        x.column(0, 2);
        x.row(-2);
        for (int a = 0; a < 3; a++) {
            x.aim();
            x.cost(a, a, 1);
            x.term(0, a, -1);
        }
        Check.due("23: run(2000)", x.run(2000), 6);
        int[][] due = {{0, 3, 3}, {1, 1, 2}, {1, 2, 1}, {2, 1, 1}, {3, 0, 3}, {3, 3, 0}};
        boxesAre(x, due);
        // Of 27 rows only 000, 100, 010, 001 have a sum below 2.
        Check.due("25: volume()", x.volume(), 23);
    }

    /** Two aims against each other, and a third in which all scores are the same. */
    private static void oneAimWithOneNumber() {
        AimFronts x = new AimFronts();
        x.column(0, 2);
        x.aim();
        x.aim();
        x.aim();
        x.cost(0, 0, 1);
        x.cost(1, 0, -2);
        x.run(3);
        int[][] due = {{0, 1, 1}, {1, 0, 1}, {2, -2, 1}, {3, -4, 1}, {3, 1, 0}};
        boxesAre(x, due);
        // From (0, 0) 3 by 1, from (1, -2) 2 by 2 more, from (2, -4) 1 by 2 more.
        Check.due("25: volume()", x.volume(), 9);
    }

    private static void twelveAndThirteen() {
        AimFronts x = new AimFronts();
        x.column(-6, 6);
        x.aim();
        x.aim();
        x.aim();
        x.aim();
        x.cost(0, 0, 9);
        x.cost(1, 0, -9);
        x.cost(2, 0, 7);
        x.cost(3, 0, -5);
        Check.due("23: run(12)", x.run(12), 12);
        // Two aims go up and two go down: between two neighbours 2 by 2 boxes, and 2 at each end.
        Check.due("23: boxes() of 12", x.boxes(), 48);
        int[] first = {-54, 55, 36, 31};
        int[] last = {46, 55, 36, -25};
        for (int a = 0; a < 4; a++) {
            Check.due("24: box(0, " + a + ") of 12", x.box(0, a), first[a]);
            Check.due("24: box(47, " + a + ") of 12", x.box(47, a), last[a]);
        }
        Check.due("24: box(48, 0) of 12", x.box(48, 0), OUTSIDE);
        Check.due("25: volume() of 12", x.volume(), volumeOfTwelve());
        Check.due("23: run(1)", x.run(1), 13);
        Check.due("23: boxes() of 13", x.boxes(), STATE);
        Check.due("24: box(0, 0) of 13", x.box(0, 0), STATE);
        Check.due("24: box(-1, 0) of 13: STATE first", x.box(-1, 0), STATE);
        Check.due("24: box(0, 4) of 13: no such aim first", x.box(0, 4), OUTSIDE);
        Check.due("25: volume() of 13", x.volume(), NONE);
    }

    /** Row by row of the first two aims: which scores reach it, and what they have in the other two. */
    private static long volumeOfTwelve() {
        long all = 0;
        for (int p = -54; p < 46; p++) {
            for (int q = -45; q < 55; q++) {
                for (int r = -42; r < 36; r++) {
                    int least = 31;
                    for (int n = -6; n < 6; n++) {
                        if (9 * n <= p && -9 * n <= q && 7 * n <= r) {
                            least = Math.min(least, -5 * n);
                        }
                    }
                    all += 31 - least;
                }
            }
        }
        return all;
    }

    /** What was worked for one front is not told of the next. */
    private static void followTheFront() {
        AimFronts x = new AimFronts();
        x.column(0, 2);
        x.aim();
        x.aim();
        x.cost(0, 0, 1);
        x.cost(1, 0, -1);
        x.run(1);
        Check.due("23: boxes() of one", x.boxes(), 2);
        Check.due("25: volume() of one", x.volume(), 1);
        x.run(1);
        Check.due("25: volume() of two", x.volume(), 3);
        Check.due("23: boxes() of two", x.boxes(), 3);
        x.run(1);
        Check.due("24: box(3, 1) of three", x.box(3, 1), -2);
        x.part(0, 2, 2);
        x.run(3);
        Check.due("24: box(0, 0) of another", x.box(0, 0), 2);
        Check.due("23: boxes() of another", x.boxes(), 2);
    }
}

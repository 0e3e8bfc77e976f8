/** Promises 9 to 16: run, left, plans, score, plan, ties, ideal, nadir. */
public final class FrontTest {
    private static final int OUTSIDE = AimFronts.OUTSIDE, STATE = AimFronts.STATE;
    private static final int LEAST = Integer.MIN_VALUE, MOST = Integer.MAX_VALUE;

    public static void main(String[] args) {
        runAndLeft();
        runByAndBy();
        pointsAreInOrder();
        frontOfTwoAims();
        tiesAndFirstPlan();
        lesserScoresLater();
        beatenLater();
        beatenInTheMiddle();
        idealAndNadir();
        farScores();
        Check.end();
    }

    private static void runAndLeft() {
        AimFronts x = new AimFronts();
        Check.due("9: run(0) without an aim", x.run(0), STATE);
        Check.due("9: run(-1): OUTSIDE ahead of STATE", x.run(-1), OUTSIDE);
        x.column(0, 9);
        x.aim();
        x.cost(0, 0, -1);
        Check.due("9: run(-1)", x.run(-1), OUTSIDE);
        Check.due("9: run(2001)", x.run(2001), OUTSIDE);
        Check.due("9: run(LEAST)", x.run(LEAST), OUTSIDE);
        Check.due("9: run(MOST)", x.run(MOST), OUTSIDE);
        Check.due("10: left()", x.left(), 10);
        Check.due("9: run(0)", x.run(0), 0);
        Check.due("10: left()", x.left(), 10);
        Check.due("9: run(3)", x.run(3), 1);
        Check.due("10: left()", x.left(), 7);
        Check.due("11: plans()", x.plans(), 3);
        Check.due("9: run(2000)", x.run(2000), 1);
        Check.due("10: left()", x.left(), 0);
        Check.due("11: plans()", x.plans(), 10);
        Check.due("9: run(2000) with none left", x.run(2000), 1);
        Check.due("11: plans()", x.plans(), 10);
        Check.due("12: score(0, 0)", x.score(0, 0), -9);
        Check.due("14: ties(0)", x.ties(0), 1);
    }

    private static void runByAndBy() {
        AimFronts x = new AimFronts();
        x.column(0, 3);
        x.aim();
        x.aim();
        x.cost(0, 0, 1);
        x.cost(1, 0, -1);
        for (int n = 1; n <= 4; n++) {
            Check.due("9: run(1), the " + n + "th", x.run(1), n);
            Check.due("10: left()", x.left(), 4 - n);
            Check.due("12: score(" + (n - 1) + ", 1)", x.score(n - 1, 1), 1 - n);
            Check.due("12: score(" + n + ", 1)", x.score(n, 1), OUTSIDE);
        }
        x.cover(0);
        x.climb(2);
        Check.due("9: run(0) ends the cover", x.run(0), 4);
        Check.due("22: picked(0)", x.picked(0), OUTSIDE);
        Check.due("27: but not where one climbed to", x.climbed(0), 2);
    }

    private static void pointsAreInOrder() {
        AimFronts x = new AimFronts();
        x.column(-1, 1);
        x.column(5, 6);
        x.aim();
        // Column 0 goes slowest: after 3 of 6 points the latest is (0, 5).
        x.cost(0, 0, -2);
        x.cost(0, 1, -1);
        x.run(3);
        Check.due("1 PLANS: score(0, 0)", x.score(0, 0), -5);
        Check.due("13: plan(0, 0)", x.plan(0, 0), 0);
        Check.due("13: plan(0, 1)", x.plan(0, 1), 5);
        x.run(1);
        Check.due("13: plan(0, 0)", x.plan(0, 0), 0);
        Check.due("13: plan(0, 1)", x.plan(0, 1), 6);
        Check.due("13: plan(0, 2)", x.plan(0, 2), OUTSIDE);
        Check.due("13: plan(0, -1)", x.plan(0, -1), OUTSIDE);
        Check.due("13: plan(1, 0)", x.plan(1, 0), OUTSIDE);
        Check.due("13: plan(-1, 0)", x.plan(-1, 0), OUTSIDE);
        Check.due("13: plan(MOST, LEAST)", x.plan(MOST, LEAST), OUTSIDE);
    }

    private static void frontOfTwoAims() {
        AimFronts x = new AimFronts();
        x.column(0, 3);
        x.column(0, 3);
        x.row(-3);
        x.term(0, 0, -1);
        x.term(0, 1, -1);
        x.aim();
        x.aim();
        x.cost(0, 0, 2);
        x.cost(1, 1, 3);
        // x + y at least 3: (0, 3), (1, 2), (2, 1), (3, 0) are not beaten.
        Check.due("2 FRONT: run(2000)", x.run(2000), 4);
        Check.due("11: plans()", x.plans(), 10);
        for (int k = 0; k < 4; k++) {
            Check.due("12: score(" + k + ", 0)", x.score(k, 0), 2 * k);
            Check.due("12: score(" + k + ", 1)", x.score(k, 1), 9 - 3 * k);
            Check.due("13: plan(" + k + ", 0)", x.plan(k, 0), k);
            Check.due("13: plan(" + k + ", 1)", x.plan(k, 1), 3 - k);
            Check.due("14: ties(" + k + ")", x.ties(k), 1);
        }
        Check.due("12: score(4, 0)", x.score(4, 0), OUTSIDE);
        Check.due("12: score(-1, 0)", x.score(-1, 0), OUTSIDE);
        Check.due("12: score(0, 2)", x.score(0, 2), OUTSIDE);
        Check.due("12: score(0, -1)", x.score(0, -1), OUTSIDE);
        Check.due("12: score(LEAST, MOST)", x.score(LEAST, MOST), OUTSIDE);
    }

    private static void tiesAndFirstPlan() {
        AimFronts x = new AimFronts();
        x.column(-1, 1);
        x.column(-1, 1);
        x.aim();
        x.aim();
        x.cost(0, 0, 1);
        x.cost(0, 1, 1);
        x.cost(1, 0, -1);
        x.cost(1, 1, -1);
        Check.due("14: run(2000)", x.run(2000), 5);
        int[] ties = {1, 2, 3, 2, 1};
        for (int k = 0; k < 5; k++) {
            Check.due("14: ties(" + k + ")", x.ties(k), ties[k]);
        }
        // Sum 0 has (-1, 1), (0, 0), (1, -1): the first of them is its plan.
        Check.due("13: plan(2, 0)", x.plan(2, 0), -1);
        Check.due("13: plan(2, 1)", x.plan(2, 1), 1);
        Check.due("14: ties(-1)", x.ties(-1), OUTSIDE);
        Check.due("14: ties(5)", x.ties(5), OUTSIDE);
        Check.due("14: ties(MOST)", x.ties(MOST), OUTSIDE);
    }

    /** Scores that come later and stand earlier: plans and ties go along with theirs. */
    private static void lesserScoresLater() {
        AimFronts x = new AimFronts();
        x.column(0, 3);
        x.column(0, 1);
        x.aim();
        x.aim();
        x.cost(0, 0, -1);
        x.cost(1, 0, 1);
        Check.due("2 FRONT: run(7)", x.run(7), 4);
        for (int k = 0; k < 4; k++) {
            Check.due("12: score(" + k + ", 0)", x.score(k, 0), k - 3);
            Check.due("12: score(" + k + ", 1)", x.score(k, 1), 3 - k);
            Check.due("13: plan(" + k + ", 0)", x.plan(k, 0), 3 - k);
            Check.due("13: plan(" + k + ", 1)", x.plan(k, 1), 0);
            Check.due("14: ties(" + k + ")", x.ties(k), k == 0 ? 1 : 2);
        }
    }

    private static void beatenLater() {
        AimFronts x = new AimFronts();
        x.column(0, 2);
        x.column(0, 1);
        x.aim();
        x.aim();
        x.aim();
        // Scores in order of points: (0, 0, 0), (0, 3, -4), (-1, -2, 0), (-1, 1, -4), ..
        x.cost(0, 0, -1);
        x.cost(1, 0, -2);
        x.cost(1, 1, 3);
        x.cost(2, 1, -4);
        Check.due("2 FRONT: run(2)", x.run(2), 2);
        Check.due("2 FRONT: run(1)", x.run(1), 2);
        Check.due("12: score(0, 0)", x.score(0, 0), -1);
        Check.due("12: score(1, 1)", x.score(1, 1), 3);
        Check.due("2 FRONT: run(1)", x.run(1), 2);
        Check.due("12: score(1, 1)", x.score(1, 1), 1);
        Check.due("2 FRONT: run(2)", x.run(2), 2);
        Check.due("12: score(0, 0)", x.score(0, 0), -2);
        Check.due("12: score(0, 1)", x.score(0, 1), -4);
        Check.due("12: score(1, 2)", x.score(1, 2), -4);
        Check.due("14: ties(0)", x.ties(0), 1);
        Check.due("11: plans()", x.plans(), 6);
    }

    /** Six points give four scores; the plan (1, 1, 0) beats the second, and those behind it keep what is theirs. */
    private static void beatenInTheMiddle() {
        AimFronts x = Script.made("column 0 1, column 0 1, column 0 1, row 2, term 0 0 2, term 0 1 -1, term 0 2 2,"
            + " aim, aim, cost 0 0 -2, cost 0 1 1, cost 0 2 1, cost 1 0 1, cost 1 1 -1, cost 1 2 -1");
        Check.due("2 FRONT: run(6)", x.run(6), 4);
        Check.due("12: score(1, 0)", x.score(1, 0), 0);
        Check.due("2 FRONT: run(1)", x.run(1), 4);
        int[][] due = {{-2, 1, 1, 0, 0, 1}, {-1, 0, 1, 1, 0, 1}, {1, -1, 0, 0, 1, 2}, {2, -2, 0, 1, 1, 1}};
        for (int k = 0; k < 4; k++) {
            for (int i = 0; i < 2; i++) {
                Check.due("12: score(" + k + ", " + i + ")", x.score(k, i), due[k][i]);
            }
            for (int c = 0; c < 3; c++) {
                Check.due("13: plan(" + k + ", " + c + ")", x.plan(k, c), due[k][2 + c]);
            }
            Check.due("14: ties(" + k + ")", x.ties(k), due[k][5]);
        }
    }

    private static void idealAndNadir() {
        AimFronts x = new AimFronts();
        Check.due("15: ideal(0) without an aim", x.ideal(0), OUTSIDE);
        Check.due("16: nadir(0) without an aim", x.nadir(0), OUTSIDE);
        x.column(0, 3);
        x.aim();
        x.aim();
        x.cost(0, 0, 5);
        x.cost(1, 0, -7);
        Check.due("15: ideal(0) without a score", x.ideal(0), STATE);
        Check.due("16: nadir(1) without a score", x.nadir(1), STATE);
        Check.due("15: ideal(2): OUTSIDE ahead of STATE", x.ideal(2), OUTSIDE);
        Check.due("16: nadir(-1): OUTSIDE ahead of STATE", x.nadir(-1), OUTSIDE);
        x.run(3);
        Check.due("15: ideal(0)", x.ideal(0), 0);
        Check.due("15: ideal(1)", x.ideal(1), -14);
        Check.due("16: nadir(0)", x.nadir(0), 10);
        Check.due("16: nadir(1)", x.nadir(1), 0);
        x.run(1);
        Check.due("15: ideal(1)", x.ideal(1), -21);
        Check.due("16: nadir(0)", x.nadir(0), 15);
        // Scores that are beaten count for neither.
        x.part(0, 5, 2000);
        x.cost(1, 0, 1);
        x.run(4);
        Check.due("16: nadir(0) of the front alone", x.nadir(0), 5);
        Check.due("15: ideal(1)", x.ideal(1), 1);
        Check.due("16: nadir(MOST)", x.nadir(MOST), OUTSIDE);
        Check.due("15: ideal(LEAST)", x.ideal(LEAST), OUTSIDE);
    }

    /** The farthest scores that eight columns can have. */
    private static void farScores() {
        AimFronts x = new AimFronts();
        for (int c = 0; c < 8; c++) {
            x.column(20, 20);
        }
        for (int a = 0; a < 4; a++) {
            x.aim();
            for (int c = 0; c < 8; c++) {
                x.cost(a, c, a % 2 == 0 ? 9 : -9);
            }
        }
        Check.due("far: run(1)", x.run(1), 1);
        for (int a = 0; a < 4; a++) {
            Check.due("far: score(0, " + a + ")", x.score(0, a), a % 2 == 0 ? 1440 : -1440);
            Check.due("far: box(0, " + a + ")", x.box(0, a), a == 0 ? 1440 : a % 2 == 0 ? 1441 : -1439);
        }
        Check.due("far: volume()", x.volume(), 1);
    }
}

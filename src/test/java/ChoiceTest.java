/** Promises 17 to 22: knee, weighted, first, under, cover, picked. */
public final class ChoiceTest {
    private static final int NONE = AimFronts.NONE, OUTSIDE = AimFronts.OUTSIDE, STATE = AimFronts.STATE;
    private static final int LEAST = Integer.MIN_VALUE, MOST = Integer.MAX_VALUE;

    public static void main(String[] args) {
        knee();
        kneeWithOneNumber();
        kneeIsExact();
        weighted();
        first();
        under();
        cover();
        coverOfMany();
        coverPicksAllNear();
        coverOfASquare();
        fourAims();
        Check.end();
    }

    /** A front along a line: scores (3 n, -2 n), n from 0 on. */
    private static AimFronts line(int count) {
        AimFronts x = new AimFronts();
        x.column(0, count - 1);
        x.aim();
        x.aim();
        x.cost(0, 0, 3);
        x.cost(1, 0, -2);
        return x;
    }

    /** Scores (0, 9), (1, 4), (2, 3), (4, 2), (5, 1), (8, 0) and what they beat: plans above a bent line. */
    private static AimFronts bent() {
        AimFronts x = new AimFronts();
        x.column(0, 9);
        x.column(0, 9);
        x.aim();
        x.aim();
        x.cost(0, 0, 1);
        x.cost(1, 1, 1);
        int[][] lines = {{-5, -1, -9}, {-1, -1, -5}, {-2, -3, -13}, {-1, -3, -8}};
        for (int r = 0; r < lines.length; r++) {
            x.row(lines[r][2]);
            x.term(r, 0, lines[r][0]);
            x.term(r, 1, lines[r][1]);
        }
        return x;
    }

    private static void knee() {
        AimFronts x = new AimFronts();
        Check.due("17: knee(0) of nothing", x.knee(0), STATE);
        Check.due("17: knee(2): OUTSIDE ahead of STATE", x.knee(2), OUTSIDE);
        Check.due("17: knee(-1)", x.knee(-1), OUTSIDE);
        x = bent();
        Check.due("17: knee(1) before run", x.knee(1), STATE);
        Check.due("17: the bent front", x.run(2000), 6);
        int[][] scores = {{0, 9}, {1, 4}, {2, 3}, {4, 2}, {5, 1}, {8, 0}};
        for (int k = 0; k < 6; k++) {
            Check.due("17: score(" + k + ", 0)", x.score(k, 0), scores[k][0]);
            Check.due("17: score(" + k + ", 1)", x.score(k, 1), scores[k][1]);
        }
        // Sums: 1, 1/8 + 4/9 = 41/72, 1/4 + 1/3 = 42/72, 52/72, 53/72, 1.
        Check.due("17: knee(0)", x.knee(0), 1);
        // Greatest: 1, 4/9, 1/3, 1/2, 5/8, 1.
        Check.due("17: knee(1)", x.knee(1), 2);
        Check.due("17: knee(MOST)", x.knee(MOST), OUTSIDE);
        x = line(5);
        x.run(5);
        Check.due("17: knee(0), all alike: the first", x.knee(0), 0);
        Check.due("17: knee(1)", x.knee(1), 2);
        x = line(4);
        x.run(4);
        Check.due("17: knee(1), two alike: the first", x.knee(1), 1);
    }

    /** An aim in which all scores are the same has the distance 0. */
    private static void kneeWithOneNumber() {
        AimFronts x = bent();
        x.aim();
        x.aim();
        x.column(1, 1);
        x.cost(3, 2, -9);
        Check.due("17: run(2000)", x.run(2000), 6);
        Check.due("17: knee(0)", x.knee(0), 1);
        Check.due("17: knee(1)", x.knee(1), 2);
        x.part(0, 2, 2);
        x.run(2000);
        Check.due("17: knee(0) of one score", x.knee(0), 0);
        Check.due("17: knee(1) of one score", x.knee(1), 0);
    }

    /** Sums of all scores are 1 exactly, in great numbers with a common factor of none. */
    private static void kneeIsExact() {
        AimFronts x = new AimFronts();
        x.column(-20, 20);
        x.column(-20, 20);
        for (int a = 0; a < 4; a++) {
            x.aim();
        }
        x.cost(0, 0, 9);
        x.cost(1, 0, -7);
        x.cost(2, 1, 5);
        x.cost(3, 1, -8);
        Check.due("17: run(2000)", x.run(2000), 1681);
        Check.due("17: knee(0), all alike", x.knee(0), 0);
        Check.due("17: knee(1), both in the middle", x.knee(1), 20 * 41 + 20);
    }

    private static void weighted() {
        AimFronts x = new AimFronts();
        Check.due("18: weighted(-1, 101, LEAST, MOST) without aims", x.weighted(-1, 101, LEAST, MOST), STATE);
        x = bent();
        Check.due("18: weighted(1, 1, 0, 0) without a score", x.weighted(1, 1, 0, 0), STATE);
        Check.due("18: weighted(1, 101, 0, 0): OUTSIDE ahead of STATE", x.weighted(1, 101, 0, 0), OUTSIDE);
        x.run(2000);
        Check.due("18: weighted(1, 1, 0, 0)", x.weighted(1, 1, 0, 0), 1);
        Check.due("18: weighted(2, 3, 0, 0), two alike: the first", x.weighted(2, 3, 0, 0), 2);
        Check.due("18: weighted(2, 4, 0, 0)", x.weighted(2, 4, 0, 0), 4);
        Check.due("18: weighted(1, 0, 0, 0)", x.weighted(1, 0, 0, 0), 0);
        Check.due("18: weighted(0, 100, 0, 0)", x.weighted(0, 100, 0, 0), 5);
        Check.due("18: weighted(100, 1, -1, 101)", x.weighted(100, 1, -1, 101), 0);
        Check.due("18: weighted(1, 1, MOST, LEAST)", x.weighted(1, 1, MOST, LEAST), 1);
        Check.due("18: weighted(0, 0, 0, 0)", x.weighted(0, 0, 0, 0), STATE);
        Check.due("18: weighted(0, 0, 1, 1): those are not looked at", x.weighted(0, 0, 1, 1), STATE);
        Check.due("18: weighted(101, 1, 0, 0)", x.weighted(101, 1, 0, 0), OUTSIDE);
        Check.due("18: weighted(1, -1, 0, 0)", x.weighted(1, -1, 0, 0), OUTSIDE);
        Check.due("18: weighted(0, 101, 0, 0)", x.weighted(0, 101, 0, 0), OUTSIDE);
    }

    private static void first() {
        AimFronts x = new AimFronts();
        Check.due("19: first(0, 0, 0, 0) without an aim", x.first(0, 0, 0, 0), OUTSIDE);
        Check.due("19: first(NONE, 0, 0, 0) without an aim", x.first(NONE, 0, 0, 0), STATE);
        x.column(0, 2);
        x.column(0, 2);
        x.column(0, 2);
        x.aim();
        x.aim();
        x.aim();
        x.cost(0, 0, 1);
        x.cost(1, 1, 1);
        x.cost(2, 2, 1);
        x.row(-3);
        x.term(0, 0, -1);
        x.term(0, 1, -1);
        x.term(0, 2, -1);
        Check.due("19: first(0, 1, 2, NONE) without a score", x.first(0, 1, 2, NONE), STATE);
        Check.due("19: first(0, 1, 3, NONE): OUTSIDE ahead of STATE", x.first(0, 1, 3, NONE), OUTSIDE);
        // Front: (0,1,2) (0,2,1) (1,0,2) (1,1,1) (1,2,0) (2,0,1) (2,1,0).
        Check.due("19: run(2000)", x.run(2000), 7);
        Check.due("19: first(NONE, 9, 9, 9)", x.first(NONE, 9, 9, 9), 0);
        Check.due("19: first(1, NONE, -1, 9)", x.first(1, NONE, -1, 9), 2);
        Check.due("19: first(1, 2, NONE, 9)", x.first(1, 2, NONE, 9), 5);
        Check.due("19: first(2, NONE, 9, 9)", x.first(2, NONE, 9, 9), 4);
        Check.due("19: first(2, 1, 0, NONE)", x.first(2, 1, 0, NONE), 6);
        Check.due("19: first(2, 2, 2, 1)", x.first(2, 2, 2, 1), 6);
        Check.due("19: first(0, 2, 1, 1)", x.first(0, 2, 1, 1), 1);
        Check.due("19: first(0, 0, 0, 0), two alike: the first", x.first(0, 0, 0, 0), 0);
        Check.due("19: first(1, 1, 1, 1), two alike: the first", x.first(1, 1, 1, 1), 2);
        Check.due("19: first(3, NONE, 0, 0)", x.first(3, NONE, 0, 0), OUTSIDE);
        Check.due("19: first(0, -1, NONE, 0)", x.first(0, -1, NONE, 0), OUTSIDE);
        Check.due("19: first(0, 0, 0, 3)", x.first(0, 0, 0, 3), OUTSIDE);
        Check.due("19: first(MOST, 0, 0, 0)", x.first(MOST, 0, 0, 0), OUTSIDE);
        Check.due("19: first(LEAST, 0, 0, 0)", x.first(LEAST, 0, 0, 0), OUTSIDE);
    }

    private static void under() {
        AimFronts x = new AimFronts();
        Check.due("20: under(MOST, ..) of nothing", x.under(MOST, MOST, MOST, MOST), NONE);
        x = bent();
        Check.due("20: under(9, 9, 9, 9) before run", x.under(9, 9, 9, 9), NONE);
        x.run(2000);
        Check.due("20: under(9, 9, LEAST, LEAST)", x.under(9, 9, LEAST, LEAST), 0);
        Check.due("20: under(9, 8, 0, 0)", x.under(9, 8, 0, 0), 1);
        Check.due("20: under(5, 2, 0, 0)", x.under(5, 2, 0, 0), 3);
        Check.due("20: under(3, 2, 0, 0)", x.under(3, 2, 0, 0), NONE);
        Check.due("20: under(4, 1, 0, 0)", x.under(4, 1, 0, 0), NONE);
        Check.due("20: under(MOST, 0, 0, 0)", x.under(MOST, 0, 0, 0), 5);
        Check.due("20: under(0, MOST, 0, 0)", x.under(0, MOST, 0, 0), 0);
        Check.due("20: under(LEAST, MOST, 0, 0)", x.under(LEAST, MOST, 0, 0), NONE);
        Check.due("20: under(MOST, LEAST, 0, 0)", x.under(MOST, LEAST, 0, 0), NONE);
        Check.due("20: under(-2049, MOST, 0, 0)", x.under(-2049, MOST, 0, 0), NONE);
        Check.due("20: under(70000, -1, 0, 0)", x.under(70000, -1, 0, 0), NONE);
    }

    private static void cover() {
        AimFronts x = new AimFronts();
        Check.due("21: cover(0) of nothing", x.cover(0), 0);
        Check.due("22: picked(0)", x.picked(0), OUTSIDE);
        Check.due("21: cover(-1)", x.cover(-1), OUTSIDE);
        x = line(7);
        x.run(7);
        Check.due("22: picked(0) without a cover", x.picked(0), OUTSIDE);
        Check.due("21: cover(0)", x.cover(0), 7);
        for (int i = 0; i < 7; i++) {
            Check.due("22: picked(" + i + ")", x.picked(i), i);
        }
        // With 3: s is near to t from one before s to one after it.
        Check.due("21: cover(3)", x.cover(3), 3);
        Check.due("22: picked(0)", x.picked(0), 1);
        Check.due("22: picked(1)", x.picked(1), 4);
        Check.due("22: picked(2)", x.picked(2), 5);
        Check.due("22: picked(3)", x.picked(3), OUTSIDE);
        Check.due("22: picked(-1)", x.picked(-1), OUTSIDE);
        Check.due("22: picked(MOST)", x.picked(MOST), OUTSIDE);
        Check.due("22: picked(LEAST)", x.picked(LEAST), OUTSIDE);
        Check.due("21: cover(4001)", x.cover(4001), OUTSIDE);
        Check.due("21: cover(LEAST)", x.cover(LEAST), OUTSIDE);
        Check.due("22: the cover stays", x.picked(2), 5);
        Check.due("21: cover(4000)", x.cover(4000), 1);
        Check.due("22: picked(0)", x.picked(0), 0);
        Check.due("22: picked(1)", x.picked(1), OUTSIDE);
        Check.due("9: a refused run leaves the cover", x.run(2001), OUTSIDE);
        Check.due("22: picked(0)", x.picked(0), 0);
        x.run(1);
        Check.due("22: run ends the cover", x.picked(0), OUTSIDE);
    }

    /** Covers are picked for 100 scores, not for 101. */
    private static void coverOfMany() {
        AimFronts x = new AimFronts();
        x.column(0, 4);
        x.column(0, 20);
        x.aim();
        x.aim();
        x.aim();
        x.aim();
        x.cost(0, 0, 1);
        x.cost(1, 0, -1);
        x.cost(2, 1, 1);
        x.cost(3, 1, -1);
        Check.due("21: run(100)", x.run(100), 100);
        Check.due("21: cover(0) of 100", x.cover(0), 100);
        Check.due("22: picked(99)", x.picked(99), 99);
        Check.due("21: cover(1) of 100", x.cover(1) < 100 ? 1 : 0, 1);
        Check.due("21: run(1)", x.run(1), 101);
        Check.due("21: cover(0) of 101", x.cover(0), STATE);
        Check.due("21: cover(4001): OUTSIDE ahead of STATE", x.cover(4001), OUTSIDE);
        Check.due("22: picked(0)", x.picked(0), OUTSIDE);
    }

    /** Near is not the same both ways, and a score may be picked that is covered already. */
    private static void coverPicksAllNear() {
        AimFronts x = bent();
        x.run(2000);
        // With 2: 0 is near to 0; 1 to 0 .. 3; 2 to 0 .. 4; 3 to 2 .. 5; 4 to 3 .. 5; 5 to 5.
        Check.due("21: cover(2)", x.cover(2), 2);
        Check.due("22: picked(0)", x.picked(0), 2);
        Check.due("22: picked(1)", x.picked(1), 3);
    }

    /** Scores (a, -a, b, -b), a and b from 0 on: all of them are on the front. */
    private static AimFronts square(int side) {
        AimFronts x = new AimFronts();
        x.column(0, side - 1);
        x.column(0, side - 1);
        for (int a = 0; a < 4; a++) {
            x.aim();
            x.cost(a, a / 2, a % 2 == 0 ? 1 : -1);
        }
        x.run(2000);
        return x;
    }

    /** What is covered twice counts once: (1, 1) has 9, (2, 2) 5 more, then two corners are left. */
    private static void coverOfASquare() {
        AimFronts x = square(4);
        int[] due = {5, 10, 2, 8};
        Check.due("21: cover(1) of a square", x.cover(1), due.length);
        for (int i = 0; i < due.length; i++) {
            Check.due("22: picked(" + i + ") of a square", x.picked(i), due[i]);
        }
    }

    private static void fourAims() {
        AimFronts x = square(4);
        Check.due("18: weighted(0, 0, 0, 1)", x.weighted(0, 0, 0, 1), 3);
        Check.due("18: weighted(0, 1, 100, 99)", x.weighted(0, 1, 100, 99), 12);
        Check.due("18: weighted(0, 0, 0, 101)", x.weighted(0, 0, 0, 101), OUTSIDE);
        Check.due("19: first(3, 1, 0, 0)", x.first(3, 1, 0, 0), 15);
        Check.due("19: first(3, 3, 3, 1)", x.first(3, 3, 3, 1), 15);
        Check.due("19: first(3, 3, 3, 0)", x.first(3, 3, 3, 0), 3);
        Check.due("20: under(2, 0, 3, -1)", x.under(2, 0, 3, -1), 1);
        Check.due("20: under(2, -2, 3, -3)", x.under(2, -2, 3, -3), 11);
        Check.due("20: under(3, 0, 3, -4)", x.under(3, 0, 3, -4), NONE);
    }
}

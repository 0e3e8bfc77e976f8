/** Promises 1 to 8: a new object, column, row, term, aim, cost, part, clear; and what begins anew. */
public final class SetUpTest {
    private static final int OUTSIDE = AimFronts.OUTSIDE, STATE = AimFronts.STATE, ROOM = AimFronts.ROOM;
    private static final int LEAST = Integer.MIN_VALUE, MOST = Integer.MAX_VALUE;

    public static void main(String[] args) {
        newObject();
        column();
        row();
        rowsHold();
        eightRowsHold();
        rightAtItsBounds();
        term();
        aim();
        cost();
        part();
        partAtFarScores();
        clear();
        setUpBeginsAnew();
        refusedSetUpChangesNothing();
        Check.end();
    }

    private static void newObject() {
        AimFronts x = new AimFronts();
        Check.due("1: left()", x.left(), 1);
        Check.due("1: plans()", x.plans(), 0);
        Check.due("1: term(0, 0, 1)", x.term(0, 0, 1), OUTSIDE);
        Check.due("1: cost(0, 0, 1)", x.cost(0, 0, 1), OUTSIDE);
        Check.due("1: part(0, 0, 1)", x.part(0, 0, 1), OUTSIDE);
        Check.due("1: climbed(0)", x.climbed(0), OUTSIDE);
        Check.due("1: picked(0)", x.picked(0), OUTSIDE);
        Check.due("1: clear()", x.clear(), 0);
        Check.due("1: a second object stands alone", new AimFronts().column(0, 0), 0);
    }

    private static void column() {
        AimFronts x = new AimFronts();
        Check.due("2: column(-21, 0)", x.column(-21, 0), OUTSIDE);
        Check.due("2: column(0, 21)", x.column(0, 21), OUTSIDE);
        Check.due("2: column(21, 21)", x.column(21, 21), OUTSIDE);
        Check.due("2: column(-21, -21)", x.column(-21, -21), OUTSIDE);
        Check.due("2: column(1, 0)", x.column(1, 0), OUTSIDE);
        Check.due("2: column(LEAST, MOST)", x.column(LEAST, MOST), OUTSIDE);
        Check.due("2: column(MOST, LEAST)", x.column(MOST, LEAST), OUTSIDE);
        Check.due("2: column(-20, 19)", x.column(-20, 19), 0);
        Check.due("2: left()", x.left(), 40);
        Check.due("2: column(0, 9)", x.column(0, 9), 1);
        Check.due("2: column(20, 20)", x.column(20, 20), 2);
        Check.due("2: column(0, 5): 2400 points", x.column(0, 5), ROOM);
        Check.due("2: column(0, 4): 2000 points", x.column(0, 4), 3);
        Check.due("2: left()", x.left(), 2000);
        Check.due("2: column(0, 1): 4000 points", x.column(0, 1), ROOM);
        Check.due("2: column(-20, -20)", x.column(-20, -20), 4);
        Check.due("2: column(0, 0)", x.column(0, 0), 5);
        Check.due("2: column(1, 1)", x.column(1, 1), 6);
        Check.due("2: column(2, 2)", x.column(2, 2), 7);
        Check.due("2: column(0, 0): the ninth", x.column(0, 0), ROOM);
        Check.due("2: column(1, 0): OUTSIDE ahead of ROOM", x.column(1, 0), OUTSIDE);
        Check.due("2: left()", x.left(), 2000);
    }

    private static void row() {
        AimFronts x = new AimFronts();
        Check.due("3: row(1001)", x.row(1001), OUTSIDE);
        Check.due("3: row(-1001)", x.row(-1001), OUTSIDE);
        Check.due("3: row(LEAST)", x.row(LEAST), OUTSIDE);
        for (int r = 0; r < 8; r++) {
            Check.due("3: row " + r, x.row(r % 2 == 0 ? 1000 : -1000), r);
        }
        Check.due("3: the ninth row", x.row(0), ROOM);
        Check.due("3: OUTSIDE ahead of ROOM", x.row(1001), OUTSIDE);
    }

    private static void rowsHold() {
        AimFronts x = new AimFronts();
        x.aim();
        Check.due("3: row(0) without columns", x.row(0), 0);
        Check.due("3: its sum is 0", x.run(1), 1);
        x.row(-1);
        Check.due("3: 0 is more than -1", x.run(1), 0);
        x.clear();
        x.aim();
        x.column(-2, 3);
        x.column(0, 1);
        x.row(2);
        x.row(1);
        x.term(0, 0, 2);
        x.term(0, 1, -1);
        x.term(1, 0, -1);
        x.run(2000);
        // 2 x - y is at most 2 and -x at most 1: x from -1 to 1, y 0 or 1.
        Check.due("3: plans() under two rows", x.plans(), 6);
    }

    /** Row c takes the 1 from column c; only the point with 0 in all columns is left. */
    private static void eightRowsHold() {
        AimFronts x = new AimFronts();
        for (int c = 0; c < 8; c++) {
            x.column(0, 1);
            x.row(0);
        }
        x.aim();
        for (int c = 7; c >= 0; c--) {
            x.run(2000);
            Check.due("3: plans() under " + (7 - c) + " rows that bind", x.plans(), 1 << (c + 1));
            x.term(c, c, 9);
        }
        x.run(2000);
        Check.due("3: plans() under eight rows", x.plans(), 1);
        Check.due("4: term(7, 7, 0)", x.term(7, 7, 0), 9);
        x.run(2000);
        Check.due("13: plan(0, 7)", x.plan(0, 7), 0);
        Check.due("14: ties(0)", x.ties(0), 2);
    }

    /** A sum of 985 and one column's number: 1000 is at most 1000, 1001 is not; and so below 0. */
    private static void rightAtItsBounds() {
        String fixed = Script.times(6, "column 20 20") + "column 5 5, column 0 20, aim, ";
        int[] factors = {9, 9, 9, 9, 9, 4, 1, 1};
        for (int sign = -1; sign <= 1; sign += 2) {
            AimFronts x = Script.made(fixed + "row " + sign * 1000);
            for (int c = 0; c < 8; c++) {
                Check.due("4: term(0, " + c + ", ..)", x.term(0, c, sign * factors[c]), 0);
            }
            x.run(2000);
            // Up to 15, or from 15 on.
            Check.due("3: plans() at a right of " + sign * 1000, x.plans(), sign > 0 ? 16 : 6);
            Check.due("13: the first of them", x.plan(0, 7), sign > 0 ? 0 : 15);
        }
    }

    private static void term() {
        AimFronts x = new AimFronts();
        x.column(0, 3);
        x.column(0, 3);
        x.row(0);
        x.row(0);
        Check.due("4: term(-1, 0, 1)", x.term(-1, 0, 1), OUTSIDE);
        Check.due("4: term(2, 0, 1)", x.term(2, 0, 1), OUTSIDE);
        Check.due("4: term(0, -1, 1)", x.term(0, -1, 1), OUTSIDE);
        Check.due("4: term(0, 2, 1)", x.term(0, 2, 1), OUTSIDE);
        Check.due("4: term(0, 0, 10)", x.term(0, 0, 10), OUTSIDE);
        Check.due("4: term(0, 0, -10)", x.term(0, 0, -10), OUTSIDE);
        Check.due("4: term(MOST, MOST, 0)", x.term(MOST, MOST, 0), OUTSIDE);
        Check.due("4: term(LEAST, LEAST, 0)", x.term(LEAST, LEAST, 0), OUTSIDE);
        Check.due("4: term(1, 0, 9)", x.term(1, 0, 9), 0);
        Check.due("4: term(1, 0, -9)", x.term(1, 0, -9), 9);
        Check.due("4: term(1, 0, 4)", x.term(1, 0, 4), -9);
        Check.due("4: the other column is as it was", x.term(1, 1, 1), 0);
        Check.due("4: the other row is as it was", x.term(0, 0, 1), 0);
        x.row(5);
        x.column(0, 0);
        Check.due("4: more rows and columns leave it", x.term(1, 0, 3), 4);
        Check.due("4: a new column has 0", x.term(1, 2, 3), 0);
        Check.due("4: a new row has 0", x.term(2, 0, 3), 0);
    }

    private static void aim() {
        AimFronts x = new AimFronts();
        for (int a = 0; a < 4; a++) {
            Check.due("5: aim " + a, x.aim(), a);
        }
        Check.due("5: the fifth", x.aim(), ROOM);
        Check.due("5: run(1)", x.run(1), 1);
        Check.due("5: score(0, 3)", x.score(0, 3), 0);
        Check.due("5: score(0, 4)", x.score(0, 4), OUTSIDE);
    }

    private static void cost() {
        AimFronts x = new AimFronts();
        x.column(2, 2);
        x.column(-3, -3);
        x.aim();
        x.aim();
        Check.due("6: cost(-1, 0, 1)", x.cost(-1, 0, 1), OUTSIDE);
        Check.due("6: cost(2, 0, 1)", x.cost(2, 0, 1), OUTSIDE);
        Check.due("6: cost(0, -1, 1)", x.cost(0, -1, 1), OUTSIDE);
        Check.due("6: cost(0, 2, 1)", x.cost(0, 2, 1), OUTSIDE);
        Check.due("6: cost(0, 0, 10)", x.cost(0, 0, 10), OUTSIDE);
        Check.due("6: cost(0, 0, -10)", x.cost(0, 0, -10), OUTSIDE);
        Check.due("6: cost(0, 0, LEAST)", x.cost(0, 0, LEAST), OUTSIDE);
        Check.due("6: cost(0, 0, 9)", x.cost(0, 0, 9), 0);
        Check.due("6: cost(0, 0, 5)", x.cost(0, 0, 5), 9);
        Check.due("6: cost(0, 1, -9)", x.cost(0, 1, -9), 0);
        Check.due("6: cost(1, 1, 4)", x.cost(1, 1, 4), 0);
        x.run(1);
        Check.due("6: score(0, 0)", x.score(0, 0), 37);
        Check.due("6: score(0, 1)", x.score(0, 1), -12);
        x.column(1, 1);
        x.aim();
        Check.due("6: a new column costs 0", x.cost(0, 2, 1), 0);
        Check.due("6: a new aim costs 0", x.cost(2, 0, 1), 0);
    }

    private static void part() {
        AimFronts x = new AimFronts();
        x.column(-20, 20);
        x.aim();
        x.cost(0, 0, 1);
        Check.due("7: part(1, 0, 0)", x.part(1, 0, 0), OUTSIDE);
        Check.due("7: part(-1, 0, 0)", x.part(-1, 0, 0), OUTSIDE);
        Check.due("7: part(0, -2001, 0)", x.part(0, -2001, 0), OUTSIDE);
        Check.due("7: part(0, 0, 2001)", x.part(0, 0, 2001), OUTSIDE);
        Check.due("7: part(0, 2001, 2001)", x.part(0, 2001, 2001), OUTSIDE);
        Check.due("7: part(0, 1, 0)", x.part(0, 1, 0), OUTSIDE);
        Check.due("7: part(0, -2000, 2000)", x.part(0, -2000, 2000), 1);
        x.run(2000);
        Check.due("7: all are plans", x.plans(), 41);
        Check.due("7: part(0, -3, 4)", x.part(0, -3, 4), 1);
        x.run(2000);
        Check.due("7: from -3 to 4, both ends too", x.plans(), 8);
        Check.due("7: score(0, 0)", x.score(0, 0), -3);
        Check.due("7: part(0, 7, 7)", x.part(0, 7, 7), 1);
        x.run(2000);
        Check.due("7: just 7", x.plans(), 1);
        Check.due("7: plan(0, 0)", x.plan(0, 0), 7);
    }

    /** The farthest score, 1440 or -1440, is within what FROM and TO are at first, and at either end of a part. */
    private static void partAtFarScores() {
        for (int sign = -1; sign <= 1; sign += 2) {
            AimFronts x = Script.made(Script.times(8, "column 20 20") + "aim");
            for (int c = 0; c < 8; c++) {
                x.cost(0, c, 9 * sign);
            }
            int score = 1440 * sign;
            Check.due("7: run(1) with from and to as at first", x.run(1), 1);
            Check.due("7: score(0, 0)", x.score(0, 0), score);
            int[][] parts = {{-2000, score, 1}, {score, 2000, 1}, {score, score, 1}, {-2000, score - 1, 0},
                {score + 1, 2000, 0}, {-2000, -2000, 0}, {2000, 2000, 0}};
            for (int[] part : parts) {
                Check.due("7: part(0, " + part[0] + ", " + part[1] + ")", x.part(0, part[0], part[1]), 1);
                Check.due("7: run(1)", x.run(1), part[2]);
            }
        }
    }

    private static void clear() {
        AimFronts x = new AimFronts();
        x.column(0, 3);
        x.column(0, 3);
        x.row(-1);
        x.aim();
        x.aim();
        x.term(0, 0, 5);
        x.cost(0, 0, 5);
        x.cost(1, 1, 6);
        x.part(0, 3, 4);
        Check.due("8: clear()", x.clear(), 2);
        Check.due("8: clear() again", x.clear(), 0);
        Check.due("8: left()", x.left(), 1);
        Check.due("8: no aims", x.run(1), STATE);
        Check.due("8: no rows", x.row(3), 0);
        Check.due("8: no columns", x.column(2, 3), 0);
        Check.due("8: aim()", x.aim(), 0);
        Check.due("8: aim()", x.aim(), 1);
        Check.due("8: column(0, 1)", x.column(0, 1), 1);
        Check.due("8: terms are 0", x.term(0, 0, 0), 0);
        Check.due("8: costs are 0", x.cost(0, 0, 0), 0);
        Check.due("8: costs are 0", x.cost(1, 1, 0), 0);
        Check.due("8: run(2000)", x.run(2000), 1);
        Check.due("8: from and to are as at first", x.plans(), 4);
        Check.due("8: left() of 2 times 2 points", x.left(), 0);
    }

    /** An object on which all that begins anew is to be seen. */
    private static AimFronts busy() {
        AimFronts x = new AimFronts();
        x.column(0, 4);
        x.row(100);
        x.aim();
        x.aim();
        x.cost(0, 0, 1);
        x.cost(1, 0, -1);
        x.run(4);
        x.cover(0);
        x.climb(3);
        x.boxes();
        return x;
    }

    private static void isAnew(String what, AimFronts x, int left) {
        Check.due(what + ": left()", x.left(), left);
        Check.due(what + ": plans()", x.plans(), 0);
        Check.due(what + ": ties(0)", x.ties(0), OUTSIDE);
        Check.due(what + ": picked(0)", x.picked(0), OUTSIDE);
        Check.due(what + ": climbed(0)", x.climbed(0), STATE);
        Check.due(what + ": boxes()", x.boxes(), STATE);
        Check.due(what + ": volume()", x.volume(), 0);
    }

    private static void setUpBeginsAnew() {
        AimFronts x = busy();
        x.column(0, 1);
        isAnew("anew by column", x, 10);
        x = busy();
        x.row(0);
        isAnew("anew by row", x, 5);
        x = busy();
        x.term(0, 0, 0);
        isAnew("anew by term", x, 5);
        x = busy();
        x.aim();
        isAnew("anew by aim", x, 5);
        x = busy();
        x.cost(0, 0, 1);
        isAnew("anew by cost", x, 5);
        x = busy();
        x.part(0, -2000, 2000);
        isAnew("anew by part", x, 5);
        x = busy();
        x.clear();
        Check.due("anew by clear: left()", x.left(), 1);
        Check.due("anew by clear: plans()", x.plans(), 0);
        Check.due("anew by clear: ties(0)", x.ties(0), OUTSIDE);
        Check.due("anew by clear: picked(0)", x.picked(0), OUTSIDE);
        Check.due("anew by clear: volume()", x.volume(), 0);
        Check.due("anew by clear: under(9, 9, 9, 9)", x.under(9, 9, 9, 9), AimFronts.NONE);
        x.column(0, 2);
        isAnew("anew by clear", x, 3);
    }

    private static void refusedSetUpChangesNothing() {
        AimFronts x = busy();
        x.column(1, 0);
        x.row(1001);
        x.term(1, 0, 0);
        x.term(0, 0, 10);
        x.cost(0, 1, 0);
        x.cost(0, 0, 10);
        x.part(0, 1, 0);
        x.run(-1);
        x.run(2001);
        x.cover(4001);
        x.climb(5);
        Check.due("refused: left()", x.left(), 1);
        Check.due("refused: plans()", x.plans(), 4);
        Check.due("refused: ties(3)", x.ties(3), 1);
        Check.due("refused: picked(3)", x.picked(3), 3);
        Check.due("refused: climbed(0)", x.climbed(0), 3);
        Check.due("refused: boxes()", x.boxes(), 5);
        x.aim();
        x.aim();
        x.run(5);
        x.cover(0);
        Check.due("refused: aim()", x.aim(), ROOM);
        Check.due("refused: picked(4)", x.picked(4), 4);
        Check.due("refused: plans()", x.plans(), 5);
    }
}

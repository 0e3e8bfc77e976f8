/** None and the most of columns, points, rows, aims, scores, ties, picks, boxes and steps. */
public final class CountsTest {
    private static final int NONE = AimFronts.NONE, OUTSIDE = AimFronts.OUTSIDE;
    private static final int STATE = AimFronts.STATE, ROOM = AimFronts.ROOM;
    private static final String POINTS_2000 = "column -20 19, column 0 9, column 3 7";

    public static void main(String[] args) {
        noColumns();
        eightColumns();
        ninthColumnEvenIfPointsStay();
        mostPoints();
        oneMoreThanMostPoints();
        noRows();
        eightRows();
        noAims();
        eachAimCounts();
        fifthAim();
        noScores();
        mostScores("1");
        mostScores("-1");
        mostTies();
        coverOfNoneOneAndMany();
        hundredScores();
        boxesOfOneScore();
        twelveScores();
        volumeBeyondAnInt();
        mostSteps();
        Check.end();
    }

    private static void due(AimFronts x, String call, long due) {
        Check.due(call, Script.answer(x, call), due);
    }

    private static void noColumns() {
        AimFronts x = Script.made("aim");
        due(x, "left", 1);
        due(x, "run 1", 1);
        due(x, "left", 0);
        due(x, "plans", 1);
        due(x, "score 0 0", 0);
        due(x, "ties 0", 1);
        due(x, "plan 0 0", OUTSIDE);
        due(x, "climb 0", 0);
        due(x, "climbed 0", OUTSIDE);
        due(x, "clear", 0);
    }

    private static void eightColumns() {
        AimFronts x = new AimFronts();
        for (int c = 0; c < 8; c++) {
            due(x, "column " + (c - 4) + " " + (c - 3), c);
        }
        due(x, "column 0 0", ROOM);
        due(x, "left", 256);
        due(x, "aim", 0);
        for (int c = 0; c < 8; c++) {
            due(x, "cost 0 " + c + " " + (c % 2 == 0 ? 9 : -9), 0);
        }
        due(x, "run 2000", 1);
        for (int c = 0; c < 8; c++) {
            due(x, "plan 0 " + c, c % 2 == 0 ? c - 4 : c - 3);
        }
        due(x, "score 0 0", -72);
        due(x, "clear", 8);
    }

    /** Eight columns of one number each: one more would leave the points as they are. */
    private static void ninthColumnEvenIfPointsStay() {
        AimFronts x = Script.made(Script.times(8, "column 5 5"));
        due(x, "left", 1);
        due(x, "column 5 5", ROOM);
        due(x, "clear", 8);
    }

    private static void mostPoints() {
        AimFronts x = Script.made(POINTS_2000);
        due(x, "left", 2000);
        due(x, "column 0 1", ROOM);
        due(x, "column -20 20", ROOM);
        due(x, "column 0 0", 3);
        due(x, "left", 2000);
        due(x, "aim", 0);
        due(x, "run 1999", 1);
        due(x, "left", 1);
        due(x, "run 1", 1);
        due(x, "left", 0);
        due(x, "run 2000", 1);
        due(x, "plans", 2000);
    }

    private static void oneMoreThanMostPoints() {
        AimFronts x = Script.made("column -14 14, column -11 11");
        due(x, "left", 667);
        // 29 times 23 times 3 are 2001.
        due(x, "column 0 2", ROOM);
        due(x, "left", 667);
        due(x, "column 0 1", 2);
        due(x, "left", 1334);
        x = Script.made("column -20 20, column -20 20");
        due(x, "left", 1681);
        due(x, "column 0 1", ROOM);
    }

    private static void noRows() {
        AimFronts x = Script.made(POINTS_2000 + ", aim, run 2000");
        due(x, "plans", 2000);
        due(x, "term 0 0 0", OUTSIDE);
    }

    private static void eightRows() {
        AimFronts x = Script.made("column -8 8, aim");
        for (int r = 0; r < 8; r++) {
            due(x, "row " + (7 - r), r);
            due(x, "term " + r + " 0 1", 0);
            due(x, "run 2000", 1);
            due(x, "plans", 16 - r);
        }
        due(x, "row 8", ROOM);
        due(x, "term 7 0 1", 1);
        due(x, "term 8 0 1", OUTSIDE);
    }

    private static void noAims() {
        AimFronts x = Script.made("column 0 3");
        due(x, "run 0", STATE);
        due(x, "run 2000", STATE);
        due(x, "left", 4);
        due(x, "plans", 0);
        due(x, "score 0 0", OUTSIDE);
        due(x, "ties 0", OUTSIDE);
        due(x, "knee 0", STATE);
        due(x, "weighted 1 1 1 1", STATE);
        due(x, "first " + NONE + " 0 0 0", STATE);
        due(x, "under 0 0 0 0", NONE);
        due(x, "cover 0", 0);
        due(x, "boxes", STATE);
        due(x, "volume", 0);
        due(x, "climb 0", STATE);
        due(x, "climb 3", STATE);
        due(x, "climbed 0", STATE);
    }

    /** Two points; the second is less in one aim alone, or less in one and greater in another. */
    private static void eachAimCounts() {
        for (int n = 1; n <= 4; n++) {
            for (int less = 0; less < n; less++) {
                String one = "column 0 1, " + Script.times(n, "aim") + "cost " + less + " 0 -1, ";
                AimFronts x = Script.made(one);
                due(x, "run 2", 1);
                due(x, "score 0 " + less, -1);
                due(x, "climb 0", 1);
                for (int more = 0; more < n; more++) {
                    if (more != less) {
                        x = Script.made(one + "cost " + more + " 0 1");
                        due(x, "run 2", 2);
                        due(x, "climb 0", 0);
                    }
                }
            }
        }
    }

    private static void fifthAim() {
        AimFronts x = Script.made("aim, aim, aim");
        due(x, "aim", 3);
        due(x, "aim", ROOM);
        due(x, "run 1", 1);
        due(x, "aim", ROOM);
        due(x, "plans", 1);
        due(x, "score 0 3", 0);
        due(x, "score 0 4", OUTSIDE);
    }

    /** Before a run, after a run of no point, and after a run that met no plan. */
    private static void noScores() {
        String set = "column 0 3, aim, aim, cost 0 0 1, cost 1 0 -1";
        String[] states = {set, set + ", run 0", set + ", part 0 9 9, run 4", set + ", row -1, run 4"};
        for (String state : states) {
            AimFronts x = Script.made(state);
            due(x, "plans", 0);
            due(x, "score 0 0", OUTSIDE);
            due(x, "plan 0 0", OUTSIDE);
            due(x, "ties 0", OUTSIDE);
            due(x, "ideal 0", STATE);
            due(x, "nadir 0", STATE);
            due(x, "knee 0", STATE);
            due(x, "knee 1", STATE);
            due(x, "weighted 1 1 1 1", STATE);
            due(x, "first 0 0 0 0", STATE);
            due(x, "under 2000 2000 2000 2000", NONE);
            due(x, "cover 0", 0);
            due(x, "cover 4000", 0);
            due(x, "picked 0", OUTSIDE);
            due(x, "boxes", STATE);
            due(x, "box 0 0", STATE);
            due(x, "volume", 0);
        }
    }

    /** Three columns, an aim for each, and one against all: no score beats another; they come up or down. */
    private static void mostScores(String way) {
        String against = way.equals("1") ? "-1" : "1";
        StringBuilder set = new StringBuilder(POINTS_2000 + ", aim, aim, aim, aim");
        for (int c = 0; c < 3; c++) {
            set.append(", cost ").append(c).append(' ').append(c).append(' ').append(way);
            set.append(", cost 3 ").append(c).append(' ').append(against);
        }
        AimFronts x = Script.made(set.toString());
        due(x, "run 1999", 1999);
        due(x, "run 1", 2000);
        due(x, "plans", 2000);
        boolean up = way.equals("1");
        int[] least = up ? new int[] {-20, 0, 3} : new int[] {19, 9, 7};
        int[] greatest = up ? new int[] {19, 9, 7} : new int[] {-20, 0, 3};
        for (int c = 0; c < 3; c++) {
            due(x, "plan 0 " + c, least[c]);
            due(x, "plan 1999 " + c, greatest[c]);
            due(x, "score 0 " + c, up ? least[c] : -least[c]);
            due(x, "score 1999 " + c, up ? greatest[c] : -greatest[c]);
        }
        due(x, "ties 0", 1);
        due(x, "ties 1999", 1);
        due(x, "ties 2000", OUTSIDE);
        due(x, "score 2000 0", OUTSIDE);
        due(x, "plan 2000 0", OUTSIDE);
        due(x, "weighted 0 0 0 1", 1999);
        due(x, "first 0 1 2 3", 0);
        due(x, "first 3 " + NONE + " 0 0", 1999);
        due(x, "cover 0", STATE);
        due(x, "boxes", STATE);
        due(x, "volume", NONE);
        due(x, "run 2000", 2000);
    }

    private static void mostTies() {
        AimFronts x = Script.made(POINTS_2000 + ", aim, aim, aim, aim, run 1");
        due(x, "ties 0", 1);
        due(x, "run 2000", 1);
        due(x, "ties 0", 2000);
        due(x, "plan 0 0", -20);
        due(x, "plan 0 1", 0);
        due(x, "plan 0 2", 3);
    }

    private static void coverOfNoneOneAndMany() {
        AimFronts x = Script.made("column -20 20, aim, aim, cost 0 0 1, cost 1 0 -1");
        due(x, "cover 0", 0);
        due(x, "picked 0", OUTSIDE);
        due(x, "run 1", 1);
        due(x, "cover 0", 1);
        due(x, "picked 0", 0);
        due(x, "picked 1", OUTSIDE);
        due(x, "run 2000", 41);
        due(x, "cover 0", 41);
        due(x, "picked 40", 40);
        // With the farthest difference, 40, the first is near to all; with 20 only the middle one; with 19 none.
        due(x, "cover 40", 1);
        due(x, "picked 0", 0);
        due(x, "cover 20", 1);
        due(x, "picked 0", 20);
        due(x, "cover 19", 2);
        due(x, "picked 0", 19);
        due(x, "picked 1", 21);
    }

    private static String grid() {
        return "column 0 4, column 0 20, aim, aim, aim, aim, cost 0 0 1, cost 1 0 -1, cost 2 1 1, cost 3 1 -1, ";
    }

    private static void hundredScores() {
        AimFronts x = Script.made(grid() + "run 99");
        due(x, "cover 0", 99);
        due(x, "run 1", 100);
        due(x, "cover 0", 100);
        due(x, "picked 99", 99);
        due(x, "picked 100", OUTSIDE);
        due(x, "run 1", 101);
        due(x, "cover 0", STATE);
        due(x, "cover 4000", STATE);
        due(x, "picked 0", OUTSIDE);
        due(x, "run 2000", 105);
        due(x, "cover 4000", STATE);
    }

    /** Box i has the score's own number in the last aim but i, and ends in all others. */
    private static void boxesOfOneScore() {
        for (int n = 1; n <= 4; n++) {
            StringBuilder set = new StringBuilder("column 1 1, " + Script.times(n, "aim"));
            for (int aim = 0; aim < n; aim++) {
                set.append("cost ").append(aim).append(" 0 ").append(aim - 2).append(", ");
            }
            AimFronts x = Script.made(set + "run 1");
            due(x, "boxes", n);
            due(x, "volume", 1);
            for (int i = 0; i < n; i++) {
                for (int aim = 0; aim < n; aim++) {
                    due(x, "box " + i + " " + aim, aim - 2 + (aim == i ? 0 : 1));
                }
            }
            due(x, "box " + n + " 0", OUTSIDE);
        }
    }

    private static void twelveScores() {
        AimFronts x = Script.made("column -20 20, aim, aim, cost 0 0 1, cost 1 0 -1, run 11");
        due(x, "boxes", 12);
        due(x, "volume", 66);
        due(x, "run 1", 12);
        due(x, "boxes", 13);
        due(x, "box 12 0", -8);
        due(x, "box 12 1", 9);
        due(x, "volume", 78);
        due(x, "run 1", 13);
        due(x, "boxes", STATE);
        due(x, "box 0 0", STATE);
        due(x, "volume", NONE);
        due(x, "part 0 -20 -9", 1);
        due(x, "run 2000", 12);
        due(x, "boxes", 13);
        due(x, "volume", 78);
    }

    /** Nine scores along two steep lines, (-180, 180) .. (-144, -144) .. (180, -180), each number in two aims. */
    private static void volumeBeyondAnInt() {
        AimFronts x = Script.made("column -20 20, column -20 20, row 160, term 0 0 -9, term 0 1 -1, row 160,"
            + " term 1 0 -1, term 1 1 -9, aim, aim, aim, aim, cost 0 0 9, cost 1 0 9, cost 2 1 9, cost 3 1 9");
        due(x, "run 2000", 9);
        int[][] scores = {{-180, 180}, {-171, 99}, {-162, 18}, {-153, -63}, {-144, -144},
            {-63, -153}, {18, -162}, {99, -171}, {180, -180}};
        for (int k = 0; k < 9; k++) {
            due(x, "score " + k + " 0", scores[k][0]);
            due(x, "score " + k + " 2", scores[k][1]);
        }
        long all = 0;
        for (int p = -180; p <= 180; p++) {
            int least = 181;
            for (int[] score : scores) {
                least = score[0] <= p ? Math.min(least, score[1]) : least;
            }
            // Pairs whose lesser number is p, times pairs with both numbers from the least one on.
            all += (long) (2 * (181 - p) - 1) * (181 - least) * (181 - least);
        }
        Check.holds("25: the volume is beyond an int: " + all, all > Integer.MAX_VALUE);
        due(x, "volume", all);
    }

    private static void mostSteps() {
        AimFronts x = Script.made("column -20 20, column -20 20, aim, cost 0 0 -1, cost 0 1 9");
        due(x, "climb 40", 80);
        due(x, "climbed 0", 20);
        due(x, "climbed 1", -20);
        due(x, "climb 1640", 0);
        due(x, "climbed 0", 20);
        due(x, "climbed 1", -20);
        due(x, "climb 1680", 40);
        due(x, "climb 0", 40);
    }
}

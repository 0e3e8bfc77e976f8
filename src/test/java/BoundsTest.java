/** Each number that a call takes: the last one within its bounds and the first one beyond, on either side. */
public final class BoundsTest {
    private static final int NONE = AimFronts.NONE, OUTSIDE = AimFronts.OUTSIDE, STATE = AimFronts.STATE;
    private static final int LEAST = Integer.MIN_VALUE, MOST = Integer.MAX_VALUE;

    /** A call with one of its numbers left open. */
    private interface Asked {
        long with(AimFronts x, int number);
    }

    public static void main(String[] args) {
        column();
        row();
        term();
        cost();
        part();
        run();
        score();
        plan();
        ties();
        idealAndNadir();
        knee();
        weighted();
        first();
        under();
        cover();
        picked();
        box();
        climb();
        climbed();
        Check.end();
    }

    private static void due(String call, String state, Asked asked, int number, long due) {
        Check.due(call + " with " + number + " after [" + state + "]", asked.with(Script.made(state), number), due);
    }

    /** Each number on a new object: the bounds have their answers, all beyond is OUTSIDE. */
    private static void bounds(String call, String state, Asked asked, int low, long atLow, int high, long atHigh) {
        due(call, state, asked, low, atLow);
        due(call, state, asked, high, atHigh);
        due(call, state, asked, low - 1, OUTSIDE);
        due(call, state, asked, high + 1, OUTSIDE);
        due(call, state, asked, LEAST, OUTSIDE);
        due(call, state, asked, MOST, OUTSIDE);
    }

    /** There is none such: no number is within bounds. */
    private static void never(String call, String state, Asked asked) {
        int[] numbers = {LEAST, NONE, -1, 0, 1, MOST};
        for (int number : numbers) {
            due(call, state, asked, number, OUTSIDE);
        }
    }

    private static String columns(int count) {
        return Script.times(count, "column 0 1");
    }

    private static String rows(int count) {
        return Script.times(count, "row 5");
    }

    private static String aims(int count) {
        return Script.times(count, "aim");
    }

    /** Two aims against each other: as many scores as points gone through, at most 41. */
    private static String line(int scores) {
        return "column -20 20, aim, aim, cost 0 0 3, cost 1 0 -2, run " + scores;
    }

    private static void column() {
        bounds("2: column(low, 20)", "", (x, low) -> x.column(low, 20), -20, 0, 20, 0);
        bounds("2: column(-20, high)", "", (x, high) -> x.column(-20, high), -20, 0, 20, 0);
        bounds("2: column(low, 3), low at most high", "", (x, low) -> x.column(low, 3), -20, 0, 3, 0);
        bounds("2: column(3, high), low at most high", "", (x, high) -> x.column(3, high), 3, 0, 20, 0);
        bounds("2: column(n, n)", "", (x, n) -> x.column(n, n), -20, 0, 20, 0);
    }

    private static void row() {
        bounds("3: row(right)", "", (x, right) -> x.row(right), -1000, 0, 1000, 0);
    }

    private static void term() {
        String set = "column 0 1, row 0, term 0 0 4";
        bounds("4: term(0, 0, a)", set, (x, a) -> x.term(0, 0, a), -9, 4, 9, 4);
        for (int n = 1; n <= 8; n++) {
            bounds("4: term(row, 0, 1)", "column 0 1, " + rows(n), (x, row) -> x.term(row, 0, 1), 0, 0, n - 1, 0);
            bounds("4: term(0, column, 1)", "row 1, " + columns(n), (x, c) -> x.term(0, c, 1), 0, 0, n - 1, 0);
        }
        never("4: term(row, 0, 1) without rows", columns(1), (x, row) -> x.term(row, 0, 1));
        never("4: term(0, column, 1) without columns", rows(1), (x, column) -> x.term(0, column, 1));
    }

    private static void cost() {
        String set = "column 0 1, aim, cost 0 0 -4";
        bounds("6: cost(0, 0, cost)", set, (x, cost) -> x.cost(0, 0, cost), -9, -4, 9, -4);
        for (int n = 1; n <= 4; n++) {
            bounds("6: cost(aim, 0, 1)", "column 0 1, " + aims(n), (x, aim) -> x.cost(aim, 0, 1), 0, 0, n - 1, 0);
        }
        for (int n = 1; n <= 8; n++) {
            bounds("6: cost(0, column, 1)", "aim, " + columns(n), (x, c) -> x.cost(0, c, 1), 0, 0, n - 1, 0);
        }
        never("6: cost(aim, 0, 1) without aims", columns(1), (x, aim) -> x.cost(aim, 0, 1));
        never("6: cost(0, column, 1) without columns", aims(1), (x, column) -> x.cost(0, column, 1));
    }

    private static void part() {
        bounds("7: part(0, from, 2000)", "aim", (x, from) -> x.part(0, from, 2000), -2000, 1, 2000, 1);
        bounds("7: part(0, -2000, to)", "aim", (x, to) -> x.part(0, -2000, to), -2000, 1, 2000, 1);
        bounds("7: part(0, from, 7), from not above to", "aim", (x, from) -> x.part(0, from, 7), -2000, 1, 7, 1);
        bounds("7: part(0, 7, to), from not above to", "aim", (x, to) -> x.part(0, 7, to), 7, 1, 2000, 1);
        for (int n = 1; n <= 4; n++) {
            bounds("7: part(aim, 0, 0)", aims(n), (x, aim) -> x.part(aim, 0, 0), 0, 1, n - 1, 1);
        }
        never("7: part(aim, 0, 0) without aims", "", (x, aim) -> x.part(aim, 0, 0));
    }

    private static void run() {
        bounds("9: run(points)", line(0), (x, points) -> x.run(points), 0, 0, 2000, 41);
        bounds("9: run(points) of one point", "aim", (x, points) -> x.run(points), 0, 0, 2000, 1);
    }

    private static void score() {
        for (int n = 1; n <= 41; n += 20) {
            bounds("12: score(k, 1)", line(n), (x, k) -> x.score(k, 1), 0, 40, n - 1, 42 - 2 * n);
        }
        for (int n = 1; n <= 4; n++) {
            String one = "column 3 3, " + aims(n) + "cost 0 0 2, cost " + (n - 1) + " 0 -5, run 1";
            bounds("12: score(0, aim)", one, (x, aim) -> x.score(0, aim), 0, n == 1 ? -15 : 6, n - 1, -15);
        }
        never("12: score(k, 0) before run", line(0), (x, k) -> x.score(k, 0));
        never("12: score(k, 0) without plans", line(0) + ", part 0 1 1, run 41", (x, k) -> x.score(k, 0));
        never("12: score(0, aim) without aims", columns(1), (x, aim) -> x.score(0, aim));
    }

    private static void plan() {
        for (int n = 1; n <= 41; n += 20) {
            bounds("13: plan(k, 0)", line(n), (x, k) -> x.plan(k, 0), 0, -20, n - 1, n - 21);
        }
        for (int n = 1; n <= 8; n++) {
            String last = Script.times(n - 1, "column 4 4") + "column -7 -6, aim, run 2000";
            bounds("13: plan(0, column)", last, (x, c) -> x.plan(0, c), 0, n == 1 ? -7 : 4, n - 1, -7);
        }
        never("13: plan(k, 0) before run", line(0), (x, k) -> x.plan(k, 0));
        never("13: plan(0, column) without columns", "aim, run 1", (x, column) -> x.plan(0, column));
    }

    private static void ties() {
        for (int n = 1; n <= 41; n += 20) {
            bounds("14: ties(k)", line(n), (x, k) -> x.ties(k), 0, 1, n - 1, 1);
        }
        never("14: ties(k) before run", line(0), (x, k) -> x.ties(k));
        never("14: ties(k) without aims", columns(1), (x, k) -> x.ties(k));
    }

    private static void idealAndNadir() {
        for (int n = 1; n <= 4; n++) {
            String two = "column 3 4, " + aims(n) + "cost 0 0 2, cost " + (n - 1) + " 0 -5, run 2";
            bounds("15: ideal(aim)", two, (x, aim) -> x.ideal(aim), 0, n == 1 ? -20 : 6, n - 1, -20);
            bounds("16: nadir(aim)", two, (x, aim) -> x.nadir(aim), 0, n == 1 ? -20 : 8, n - 1, n == 1 ? -20 : -15);
        }
        never("15: ideal(aim) without aims", columns(1), (x, aim) -> x.ideal(aim));
        never("16: nadir(aim) without aims", columns(1), (x, aim) -> x.nadir(aim));
    }

    private static void knee() {
        bounds("17: knee(rule)", line(41), (x, rule) -> x.knee(rule), 0, 0, 1, 20);
    }

    private static long weightedAt(AimFronts x, int place, int weight) {
        int[] w = {1, 1, 1, 1};
        w[place] = weight;
        return x.weighted(w[0], w[1], w[2], w[3]);
    }

    private static void weighted() {
        for (int n = 1; n <= 4; n++) {
            String one = aims(n) + "run 1";
            for (int p = 0; p < 4; p++) {
                int place = p;
                String call = "18: weighted(..), weight " + p;
                if (p < n) {
                    long atZero = n == 1 ? STATE : 0;
                    bounds(call, one, (x, weight) -> weightedAt(x, place, weight), 0, atZero, 100, 0);
                } else {
                    int[] any = {LEAST, NONE, -1, 0, 100, 101, MOST};
                    for (int weight : any) {
                        due(call + ": beyond the last aim", one, (x, w) -> weightedAt(x, place, w), weight, 0);
                    }
                }
            }
        }
    }

    private static long firstAt(AimFronts x, int place, int aim) {
        int[] a = {0, 0, 0, 0};
        a[place] = aim;
        return x.first(a[0], a[1], a[2], a[3]);
    }

    private static void first() {
        for (int n = 1; n <= 4; n++) {
            String one = aims(n) + "run 1";
            for (int p = 0; p < 4; p++) {
                int place = p;
                String call = "19: first(..), place " + p;
                bounds(call, one, (x, aim) -> firstAt(x, place, aim), 0, 0, n - 1, 0);
                due(call, one, (x, aim) -> firstAt(x, place, aim), NONE, 0);
                due(call, one, (x, aim) -> firstAt(x, place, aim), NONE - 1, OUTSIDE);
                due(call, one, (x, aim) -> firstAt(x, place, aim), NONE + 1, OUTSIDE);
            }
        }
    }

    private static long underAt(AimFronts x, int place, int level) {
        int[] levels = {MOST, MOST, MOST, MOST};
        levels[place] = level;
        return x.under(levels[0], levels[1], levels[2], levels[3]);
    }

    /** Levels have no bounds: what counts is the score, here 9 in each aim, with itself and one less. */
    private static void under() {
        for (int n = 1; n <= 4; n++) {
            StringBuilder one = new StringBuilder("column 1 1, " + aims(n));
            for (int aim = 0; aim < n; aim++) {
                one.append("cost ").append(aim).append(" 0 9, ");
            }
            one.append("run 1");
            for (int p = 0; p < 4; p++) {
                int place = p;
                int[] levels = {LEAST, LEAST + 1, -70000, -2049, -2048, -2001, 8, 9, 10, 2001, 2048, 65545, MOST};
                for (int level : levels) {
                    long due = p < n && level < 9 ? NONE : 0;
                    due("20: under(..), level " + p, one.toString(), (x, l) -> underAt(x, place, l), level, due);
                }
            }
        }
    }

    private static void cover() {
        bounds("21: cover(d)", line(41), (x, d) -> x.cover(d), 0, 41, 4000, 1);
        bounds("21: cover(d) without a score", "", (x, d) -> x.cover(d), 0, 0, 4000, 0);
    }

    private static void picked() {
        for (int n = 1; n <= 41; n += 20) {
            bounds("22: picked(i)", line(n) + ", cover 0", (x, i) -> x.picked(i), 0, 0, n - 1, n - 1);
        }
        bounds("22: picked(i)", line(41) + ", cover 4000", (x, i) -> x.picked(i), 0, 0, 0, 0);
        never("22: picked(i) without a cover", line(41), (x, i) -> x.picked(i));
        never("22: picked(i) of a cover of none", "cover 0", (x, i) -> x.picked(i));
    }

    private static void box() {
        for (int n = 1; n <= 12; n++) {
            bounds("24: box(i, 0)", line(n), (x, i) -> x.box(i, 0), 0, -60, n, 3 * n - 62);
            bounds("24: box(0, aim)", line(n), (x, aim) -> x.box(0, aim), 0, -60, 1, 41);
        }
        for (int n = 1; n <= 4; n++) {
            bounds("24: box(i, 0) of one score", aims(n) + "run 1", (x, i) -> x.box(i, 0), 0, 0, n - 1, n == 1 ? 0 : 1);
            bounds("24: box(0, aim) of one score", aims(n) + "run 1", (x, aim) -> x.box(0, aim), 0, 0, n - 1, n == 1 ? 0 : 1);
        }
        never("24: box(0, aim) without aims", columns(1), (x, aim) -> x.box(0, aim));
    }

    private static void climb() {
        bounds("26: climb(n) of one point", "aim", (x, n) -> x.climb(n), 0, 0, 0, 0);
        bounds("26: climb(n) of 41", "column -20 20, aim, cost 0 0 1", (x, n) -> x.climb(n), 0, 0, 40, 40);
        String most = "column -20 19, column 0 9, column 3 7, aim, cost 0 0 1, cost 0 1 1, cost 0 2 1";
        bounds("26: climb(n) of 2000", most, (x, n) -> x.climb(n), 0, 0, 1999, 39 + 9 + 4);
    }

    private static void climbed() {
        for (int n = 1; n <= 8; n++) {
            String last = Script.times(n - 1, "column 4 4") + "column -7 -6, aim, climb 1";
            bounds("27: climbed(column)", last, (x, c) -> x.climbed(c), 0, n == 1 ? -6 : 4, n - 1, -6);
        }
        never("27: climbed(column) without columns", "aim, climb 0", (x, column) -> x.climbed(column));
    }
}

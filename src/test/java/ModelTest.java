import java.util.Random;

/** Long runs of calls, the same ones each time, on AimFronts and on the plain model: all promises. */
public final class ModelTest {
    private static final int RUNS = 1500, CALLS = 512;
    private static final int[] ODD = {Integer.MIN_VALUE, Integer.MAX_VALUE, -1000000, -2001, 2001, 4001, -21, 21, -1, 13};

    private final Random random;
    private final AimFronts real = new AimFronts();
    private final PlainModel plain = new PlainModel();
    private final String name;
    private int calls;
    private int columns;
    private int rows;
    private int aims;

    private ModelTest(long seed) {
        random = new Random(seed);
        name = "run " + seed + ", call ";
    }

    public static void main(String[] args) {
        int runs = args.length > 0 ? Integer.parseInt(args[0]) : RUNS;
        for (int seed = 0; seed < runs; seed++) {
            new ModelTest(seed).go();
        }
        Check.end();
    }

    private void go() {
        while (calls < CALLS) {
            setUp();
            int rounds = 1 + random.nextInt(4);
            for (int i = 0; i < rounds; i++) {
                run(random.nextInt(3) == 0 ? 2000 : random.nextInt(60));
                int asks = 5 + random.nextInt(40);
                for (int j = 0; j < asks; j++) {
                    ask();
                }
                if (random.nextInt(4) == 0) {
                    change();
                }
            }
        }
    }

    /** A number from low to high, and now and then one beyond. */
    private int some(int low, int high) {
        if (random.nextInt(40) == 0) {
            return ODD[random.nextInt(ODD.length)];
        }
        if (random.nextInt(25) == 0) {
            return random.nextBoolean() ? low - 1 : high + 1;
        }
        return low + random.nextInt(Math.max(1, high - low + 1));
    }

    /** What an object answers after its 512th call is free. */
    private void due(String call, long got, long want) {
        if (calls == CALLS) {
            return;
        }
        calls++;
        Check.due(name + calls + ": " + call, got, want);
    }

    private void setUp() {
        due("clear()", real.clear(), plain.clear());
        columns = 0;
        rows = 0;
        aims = 0;
        int wanted = random.nextInt(7);
        int width = 1 + random.nextInt(wanted < 3 ? 20 : 4);
        for (int i = 0; i < wanted; i++) {
            int low = some(-20, 20 - width);
            column(low, random.nextInt(20) == 0 ? some(-20, 20) : low + random.nextInt(width + 1));
        }
        int wantedAims = random.nextInt(8) == 0 ? random.nextInt(6) : 2 + random.nextInt(3);
        for (int i = 0; i < wantedAims; i++) {
            int got = real.aim();
            due("aim()", got, plain.aim());
            aims = got >= 0 ? got + 1 : aims;
        }
        int wantedRows = random.nextInt(3);
        for (int i = 0; i < wantedRows; i++) {
            row(random.nextInt(30) == 0 ? some(-1000, 1000) : random.nextInt(60) - 20);
        }
        int mostCost = random.nextBoolean() ? 9 : 1 + random.nextInt(3);
        for (int a = 0; a < aims; a++) {
            for (int c = 0; c < columns; c++) {
                cost(a, c, random.nextInt(2 * mostCost + 1) - mostCost);
            }
        }
        for (int r = 0; r < rows; r++) {
            for (int c = 0; c < columns; c++) {
                term(r, c, random.nextInt(7) - 3);
            }
        }
    }

    private void column(int low, int high) {
        int got = real.column(low, high);
        due("column(" + low + ", " + high + ")", got, plain.column(low, high));
        columns = got >= 0 ? got + 1 : columns;
    }

    private void row(int right) {
        int got = real.row(right);
        due("row(" + right + ")", got, plain.row(right));
        rows = got >= 0 ? got + 1 : rows;
    }

    private void cost(int aim, int column, int cost) {
        due("cost(" + aim + ", " + column + ", " + cost + ")", real.cost(aim, column, cost), plain.cost(aim, column, cost));
    }

    private void term(int row, int column, int a) {
        due("term(" + row + ", " + column + ", " + a + ")", real.term(row, column, a), plain.term(row, column, a));
    }

    private void run(int points) {
        due("run(" + points + ")", real.run(points), plain.run(points));
    }

    private void change() {
        switch (random.nextInt(5)) {
            case 0 -> cost(some(0, aims - 1), some(0, columns - 1), some(-9, 9));
            case 1 -> term(some(0, rows - 1), some(0, columns - 1), some(-9, 9));
            case 2 -> {
                int aim = some(0, aims - 1);
                int from = some(-60, 20);
                int to = random.nextInt(10) == 0 ? some(-2000, 2000) : from + random.nextInt(60);
                due("part(" + aim + ", " + from + ", " + to + ")", real.part(aim, from, to), plain.part(aim, from, to));
            }
            case 3 -> row(some(-5, 60));
            default -> column(some(-3, 0), some(0, 3));
        }
    }

    private void ask() {
        int k = some(0, Math.min(20, plain.scores()));
        int aim = some(0, aims - 1);
        int column = some(0, columns - 1);
        switch (random.nextInt(20)) {
            case 0 -> run(some(0, random.nextInt(5) == 0 ? 2000 : 9));
            case 1 -> due("left()", real.left(), plain.left());
            case 2 -> due("plans()", real.plans(), plain.plans());
            case 3, 4 -> due("score(" + k + ", " + aim + ")", real.score(k, aim), plain.score(k, aim));
            case 5 -> due("plan(" + k + ", " + column + ")", real.plan(k, column), plain.plan(k, column));
            case 6 -> due("ties(" + k + ")", real.ties(k), plain.ties(k));
            case 7 -> due("ideal(" + aim + ")", real.ideal(aim), plain.ideal(aim));
            case 8 -> due("nadir(" + aim + ")", real.nadir(aim), plain.nadir(aim));
            case 9 -> {
                int rule = some(0, 1);
                due("knee(" + rule + ")", real.knee(rule), plain.knee(rule));
            }
            case 10, 11, 12 -> askFour();
            case 13 -> {
                int d = random.nextInt(10) == 0 ? some(0, 4000) : some(0, 30);
                due("cover(" + d + ")", real.cover(d), plain.cover(d));
            }
            case 14 -> {
                int i = some(0, random.nextInt(2) * 9);
                due("picked(" + i + ")", real.picked(i), plain.picked(i));
            }
            case 15 -> due("boxes()", real.boxes(), plain.boxes());
            case 16 -> askBox(aim);
            case 17 -> due("volume()", real.volume(), plain.volume());
            case 18 -> {
                int n = some(0, Math.max(0, plain.left() - 1));
                due("climb(" + n + ")", real.climb(n), plain.climb(n));
            }
            default -> due("climbed(" + column + ")", real.climbed(column), plain.climbed(column));
        }
    }

    private void askBox(int aim) {
        int i = some(0, Math.max(0, plain.boxes()));
        due("box(" + i + ", " + aim + ")", real.box(i, aim), plain.box(i, aim));
    }

    private void askFour() {
        int[] n = new int[4];
        int kind = random.nextInt(3);
        for (int i = 0; i < 4; i++) {
            n[i] = kind == 0 ? some(0, random.nextBoolean() ? 100 : 2)
                : kind == 1 ? (random.nextInt(4) == 0 ? AimFronts.NONE : some(0, aims - 1))
                : some(-20, 60);
        }
        String four = "(" + n[0] + ", " + n[1] + ", " + n[2] + ", " + n[3] + ")";
        if (kind == 0) {
            due("weighted" + four, real.weighted(n[0], n[1], n[2], n[3]), plain.weighted(n[0], n[1], n[2], n[3]));
        } else if (kind == 1) {
            due("first" + four, real.first(n[0], n[1], n[2], n[3]), plain.first(n[0], n[1], n[2], n[3]));
        } else {
            due("under" + four, real.under(n[0], n[1], n[2], n[3]), plain.under(n[0], n[1], n[2], n[3]));
        }
    }
}

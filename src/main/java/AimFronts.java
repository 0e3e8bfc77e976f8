import java.util.Arrays;

/**
 * Several aims at once: plans of whole numbers under rows, each with a score for each aim; those
 * scores that no plan beats make the front, each with its least plan and how many plans have it.
 */
public final class AimFronts {
    public static final int NONE = -1000000, OUTSIDE = -1000001, STATE = -1000002, ROOM = -1000003;

    private static final int MOST_COLUMNS = 8, MOST_ROWS = 8, MOST_AIMS = 4, MOST_POINTS = 2000;
    private static final int MOST_NUMBER = 20, MOST_RIGHT = 1000, MOST_FACTOR = 9, MOST_SCORE = 2000;
    private static final int MOST_WEIGHT = 100, MOST_DISTANCE = 4000;
    private static final long NO_PLAN = -1L;

    private final Task task;
    private final Front front;
    private final Cover cover;
    private final Behind behind;
    private final Climber climber;
    private final int[] numbers;
    private final int[] asked;
    private int gone;
    private int met;

    public AimFronts() {
        task = new Task();
        front = new Front();
        cover = new Cover();
        behind = new Behind();
        climber = new Climber();
        numbers = new int[MOST_COLUMNS];
        asked = new int[MOST_AIMS];
    }

    public int column(int low, int high) {
        if (!within(low, MOST_NUMBER) || !within(high, MOST_NUMBER) || low > high) {
            return OUTSIDE;
        }
        if (task.columns == MOST_COLUMNS || task.points * (high - low + 1) > MOST_POINTS) {
            return ROOM;
        }
        beginAnew();
        return task.addColumn(low, high);
    }

    public int row(int right) {
        if (!within(right, MOST_RIGHT)) {
            return OUTSIDE;
        }
        if (task.rows == MOST_ROWS) {
            return ROOM;
        }
        beginAnew();
        return task.addRow(right);
    }

    public int term(int row, int column, int a) {
        if (!among(row, task.rows) || !among(column, task.columns) || !within(a, MOST_FACTOR)) {
            return OUTSIDE;
        }
        int before = task.terms[row][column];
        beginAnew();
        task.terms[row][column] = a;
        return before;
    }

    public int aim() {
        if (task.aims == MOST_AIMS) {
            return ROOM;
        }
        beginAnew();
        return task.addAim();
    }

    public int cost(int aim, int column, int cost) {
        if (!among(aim, task.aims) || !among(column, task.columns) || !within(cost, MOST_FACTOR)) {
            return OUTSIDE;
        }
        int before = task.costs[aim][column];
        beginAnew();
        task.costs[aim][column] = cost;
        return before;
    }

    public int part(int aim, int from, int to) {
        if (!among(aim, task.aims) || !within(from, MOST_SCORE) || !within(to, MOST_SCORE) || from > to) {
            return OUTSIDE;
        }
        beginAnew();
        task.from[aim] = from;
        task.to[aim] = to;
        return 1;
    }

    public int clear() {
        int before = task.columns;
        beginAnew();
        task.forget();
        return before;
    }

    public int run(int points) {
        if (points < 0 || points > MOST_POINTS) {
            return OUTSIDE;
        }
        if (task.aims == 0) {
            return STATE;
        }
        cover.end();
        behind.forget();
        int end = gone + Math.min(points, task.points - gone);
        for (int point = gone; point < end; point++) {
            goThrough(point);
        }
        gone = end;
        return front.size;
    }

    public int left() {
        return task.points - gone;
    }

    public int plans() {
        return met;
    }

    public int score(int k, int aim) {
        if (!among(k, front.size) || !among(aim, task.aims)) {
            return OUTSIDE;
        }
        return front.number(k, aim);
    }

    public int plan(int k, int column) {
        if (!among(k, front.size) || !among(column, task.columns)) {
            return OUTSIDE;
        }
        task.fill(front.points[k], numbers);
        return numbers[column];
    }

    public int ties(int k) {
        return among(k, front.size) ? front.counts[k] : OUTSIDE;
    }

    public int ideal(int aim) {
        if (!among(aim, task.aims)) {
            return OUTSIDE;
        }
        return front.size == 0 ? STATE : front.least(aim);
    }

    public int nadir(int aim) {
        if (!among(aim, task.aims)) {
            return OUTSIDE;
        }
        return front.size == 0 ? STATE : front.greatest(aim);
    }

    public int knee(int rule) {
        if (!among(rule, 2)) {
            return OUTSIDE;
        }
        return front.size == 0 ? STATE : front.kneeBy(rule, task.aims);
    }

    public int weighted(int a, int b, int c, int d) {
        ask(a, b, c, d);
        boolean allZero = true;
        for (int aim = 0; aim < task.aims; aim++) {
            if (asked[aim] < 0 || asked[aim] > MOST_WEIGHT) {
                return OUTSIDE;
            }
            allZero = allZero && asked[aim] == 0;
        }
        return front.size == 0 || allZero ? STATE : front.lightest(asked, task.aims);
    }

    public int first(int a, int b, int c, int d) {
        ask(a, b, c, d);
        int looked = 0;
        while (looked < MOST_AIMS && asked[looked] != NONE) {
            if (!among(asked[looked], task.aims)) {
                return OUTSIDE;
            }
            looked++;
        }
        return front.size == 0 ? STATE : front.leastInTurn(asked, looked);
    }

    public int under(int a, int b, int c, int d) {
        ask(a, b, c, d);
        return front.firstUnder(asked, task.aims);
    }

    public int cover(int d) {
        if (d < 0 || d > MOST_DISTANCE) {
            return OUTSIDE;
        }
        return front.size > Cover.MOST_SCORES ? STATE : cover.pick(front, d);
    }

    public int picked(int i) {
        return among(i, cover.size) ? cover.picks[i] : OUTSIDE;
    }

    public int boxes() {
        if (!behind.fits(front)) {
            return STATE;
        }
        behind.work(front, task.aims);
        return behind.size;
    }

    public int box(int i, int aim) {
        if (!among(aim, task.aims)) {
            return OUTSIDE;
        }
        if (!behind.fits(front)) {
            return STATE;
        }
        behind.work(front, task.aims);
        return among(i, behind.size) ? Packed.number(behind.corners[i], aim) : OUTSIDE;
    }

    public long volume() {
        if (front.size == 0) {
            return 0;
        }
        if (!behind.fits(front)) {
            return NONE;
        }
        behind.work(front, task.aims);
        return behind.content;
    }

    public int climb(int n) {
        if (!among(n, task.points)) {
            return OUTSIDE;
        }
        task.fill(n, numbers);
        if (task.aims == 0 || task.scoreOf(numbers) == NO_PLAN) {
            return STATE;
        }
        return climber.climbFrom(task, numbers);
    }

    public int climbed(int column) {
        if (!among(column, task.columns)) {
            return OUTSIDE;
        }
        return climber.hasClimbed ? climber.place[column] : STATE;
    }

    private void beginAnew() {
        gone = 0;
        met = 0;
        front.size = 0;
        cover.end();
        behind.forget();
        climber.hasClimbed = false;
    }

    private void goThrough(int point) {
        task.fill(point, numbers);
        long score = task.scoreOf(numbers);
        if (score != NO_PLAN) {
            met++;
            front.meet(score, point);
        }
    }

    private void ask(int a, int b, int c, int d) {
        asked[0] = a;
        asked[1] = b;
        asked[2] = c;
        asked[3] = d;
    }

    private static boolean among(int index, int count) {
        return index >= 0 && index < count;
    }

    private static boolean within(int number, int most) {
        return number >= -most && number <= most;
    }

    /**
     * A score in one long, a lane of 16 bits for each aim. Aim 0 has the highest lane, so the longs
     * are in the order of the scores; and one subtraction compares all aims at once.
     */
    private static final class Packed {
        /** Added to each number, so that no lane is negative: a number is above -2048 and below 2048. */
        static final int SHIFTED = 2048;
        static final int HIGHEST = 2047;
        static final long ONE_EACH = 0x0001000100010001L;
        /** Above every lane's number, even with a distance of 4000 added: no lane borrows from the next. */
        static final long GUARDS = 0x4000400040004000L;

        static int place(int aim) {
            return 48 - 16 * aim;
        }

        static long lane(int aim, int number) {
            return (long) (number + SHIFTED) << place(aim);
        }

        static int number(long score, int aim) {
            return (int) ((score >>> place(aim)) & 0xFFFFL) - SHIFTED;
        }

        static boolean inNoneGreater(long one, long other) {
            return ((other + GUARDS - one) & GUARDS) == GUARDS;
        }
    }

    /** The columns, rows and aims, and what they say of a point. */
    private static final class Task {
        final int[] low = new int[MOST_COLUMNS];
        final int[] high = new int[MOST_COLUMNS];
        final int[] right = new int[MOST_ROWS];
        final int[][] terms = new int[MOST_ROWS][MOST_COLUMNS];
        final int[] from = new int[MOST_AIMS];
        final int[] to = new int[MOST_AIMS];
        final int[][] costs = new int[MOST_AIMS][MOST_COLUMNS];
        int columns;
        int rows;
        int aims;
        int points = 1;

        int addColumn(int least, int most) {
            low[columns] = least;
            high[columns] = most;
            points *= most - least + 1;
            return columns++;
        }

        int addRow(int most) {
            right[rows] = most;
            return rows++;
        }

        int addAim() {
            from[aims] = -MOST_SCORE;
            to[aims] = MOST_SCORE;
            return aims++;
        }

        /** The coefficients go too: what is added later finds 0 in its place. */
        void forget() {
            columns = 0;
            rows = 0;
            aims = 0;
            points = 1;
            for (int[] row : terms) {
                Arrays.fill(row, 0);
            }
            for (int[] row : costs) {
                Arrays.fill(row, 0);
            }
        }

        /** The last column's number changes fastest, since points are in order by column 0 first. */
        void fill(int point, int[] numbers) {
            int rest = point;
            for (int c = columns - 1; c >= 0; c--) {
                int width = Math.max(1, high[c] - low[c] + 1);
                numbers[c] = low[c] + rest % width;
                rest /= width;
            }
        }

        /** The packed score of a plan; NO_PLAN for any other point. */
        long scoreOf(int[] numbers) {
            for (int r = 0; r < rows; r++) {
                if (sum(terms[r], numbers) > right[r]) {
                    return NO_PLAN;
                }
            }
            long score = 0;
            for (int aim = 0; aim < aims; aim++) {
                int number = sum(costs[aim], numbers);
                if (number < from[aim] || number > to[aim]) {
                    return NO_PLAN;
                }
                score += Packed.lane(aim, number);
            }
            return score;
        }

        private int sum(int[] factors, int[] numbers) {
            int sum = 0;
            for (int c = 0; c < columns; c++) {
                sum += factors[c] * numbers[c];
            }
            return sum;
        }
    }

    /** The scores that none beats, in order, each with its first point and how many plans have it. */
    private static final class Front {
        final long[] scores = new long[MOST_POINTS];
        final int[] points = new int[MOST_POINTS];
        final int[] counts = new int[MOST_POINTS];
        int size;
        private final int[] ideals = new int[MOST_AIMS];
        private final long[] scales = new long[MOST_AIMS];

        /** A score that was beaten once stays beaten, so nothing is kept of it. */
        void meet(long score, int point) {
            int k = placeOf(score);
            if (k < size && scores[k] == score) {
                counts[k]++;
            } else if (!isBeaten(score, k)) {
                dropBeaten(score, k);
                insert(k, score, point);
            }
        }

        /** How many scores of the front are less. */
        private int placeOf(long score) {
            int from = 0;
            int to = size;
            while (from < to) {
                int middle = (from + to) >>> 1;
                if (scores[middle] < score) {
                    from = middle + 1;
                } else {
                    to = middle;
                }
            }
            return from;
        }

        /** Only a score that is less in order can beat it. */
        private boolean isBeaten(long score, int place) {
            for (int k = 0; k < place; k++) {
                if (Packed.inNoneGreater(scores[k], score)) {
                    return true;
                }
            }
            return false;
        }

        private void dropBeaten(long score, int place) {
            int kept = place;
            for (int k = place; k < size; k++) {
                if (!Packed.inNoneGreater(score, scores[k])) {
                    move(k, kept);
                    kept++;
                }
            }
            size = kept;
        }

        private void move(int from, int to) {
            if (from != to) {
                scores[to] = scores[from];
                points[to] = points[from];
                counts[to] = counts[from];
            }
        }

        private void insert(int place, long score, int point) {
            if (size >= MOST_POINTS) {
                return;
            }
            System.arraycopy(scores, place, scores, place + 1, size - place);
            System.arraycopy(points, place, points, place + 1, size - place);
            System.arraycopy(counts, place, counts, place + 1, size - place);
            scores[place] = score;
            points[place] = point;
            counts[place] = 1;
            size++;
        }

        int number(int k, int aim) {
            return Packed.number(scores[k], aim);
        }

        int least(int aim) {
            int least = MOST_SCORE;
            for (int k = 0; k < size; k++) {
                least = Math.min(least, number(k, aim));
            }
            return least;
        }

        int greatest(int aim) {
            int greatest = -MOST_SCORE;
            for (int k = 0; k < size; k++) {
                greatest = Math.max(greatest, number(k, aim));
            }
            return greatest;
        }

        int kneeBy(int rule, int aims) {
            measure(aims);
            int best = 0;
            long bestFar = Long.MAX_VALUE;
            for (int k = 0; k < size; k++) {
                long far = 0;
                for (int aim = 0; aim < aims; aim++) {
                    long distance = (number(k, aim) - ideals[aim]) * scales[aim];
                    far = rule == 0 ? far + distance : Math.max(far, distance);
                }
                if (far < bestFar) {
                    best = k;
                    bestFar = far;
                }
            }
            return best;
        }

        /**
         * Distances are compared as whole numbers, all of them times the product of the aims' ranges:
         * at most 4000 to the fourth, so that four of them fit a long.
         */
        private void measure(int aims) {
            long product = 1;
            for (int aim = 0; aim < aims; aim++) {
                ideals[aim] = least(aim);
                scales[aim] = Math.max(1, greatest(aim) - ideals[aim]);
                product *= scales[aim];
            }
            for (int aim = 0; aim < aims; aim++) {
                scales[aim] = product / Math.max(1, scales[aim]);
            }
        }

        int lightest(int[] weights, int aims) {
            int best = 0;
            int bestSum = Integer.MAX_VALUE;
            for (int k = 0; k < size; k++) {
                int sum = 0;
                for (int aim = 0; aim < aims; aim++) {
                    sum += weights[aim] * number(k, aim);
                }
                if (sum < bestSum) {
                    best = k;
                    bestSum = sum;
                }
            }
            return best;
        }

        int leastInTurn(int[] turns, int looked) {
            int best = 0;
            for (int k = 1; k < size; k++) {
                if (isLessInTurn(k, best, turns, looked)) {
                    best = k;
                }
            }
            return best;
        }

        private boolean isLessInTurn(int k, int other, int[] turns, int looked) {
            for (int i = 0; i < looked; i++) {
                int one = number(k, turns[i]);
                int two = number(other, turns[i]);
                if (one != two) {
                    return one < two;
                }
            }
            return false;
        }

        /** Levels beyond every score are drawn in, so that they fit a lane. */
        int firstUnder(int[] levels, int aims) {
            long level = 0;
            for (int aim = 0; aim < aims; aim++) {
                int drawnIn = Math.max(-MOST_SCORE - 1, Math.min(MOST_SCORE, levels[aim]));
                level += Packed.lane(aim, drawnIn);
            }
            for (int k = 0; k < size; k++) {
                if (Packed.inNoneGreater(scores[k], level)) {
                    return k;
                }
            }
            return NONE;
        }
    }

    /** A few scores that are near to all. */
    private static final class Cover {
        static final int MOST_SCORES = 100;
        final int[] picks = new int[MOST_SCORES];
        /** For each score, to how many of those not yet covered it is near. */
        private final int[] reach = new int[MOST_SCORES];
        private final boolean[] covered = new boolean[MOST_SCORES];
        private int scores;
        int size;

        void end() {
            size = 0;
        }

        int pick(Front front, int d) {
            long distance = d * Packed.ONE_EACH;
            scores = Math.min(front.size, MOST_SCORES);
            for (int k = 0; k < scores; k++) {
                covered[k] = false;
                reach[k] = 0;
            }
            for (int k = 0; k < scores; k++) {
                changeReach(front, k, distance, 1);
            }
            size = 0;
            int open = scores;
            for (int i = 0; i < scores && open > 0; i++) {
                picks[i] = furthest();
                open -= coverFrom(front, picks[i], distance);
                size = i + 1;
            }
            return size;
        }

        private int furthest() {
            int best = 0;
            for (int k = 1; k < scores; k++) {
                if (reach[k] > reach[best]) {
                    best = k;
                }
            }
            return best;
        }

        private int coverFrom(Front front, int picked, long distance) {
            int more = 0;
            for (int k = 0; k < scores; k++) {
                if (!covered[k] && isNear(front, picked, k, distance)) {
                    covered[k] = true;
                    changeReach(front, k, distance, -1);
                    more++;
                }
            }
            return more;
        }

        private void changeReach(Front front, int score, long distance, int change) {
            for (int k = 0; k < scores; k++) {
                if (isNear(front, k, score, distance)) {
                    reach[k] += change;
                }
            }
        }

        private boolean isNear(Front front, int one, int other, long distance) {
            return Packed.inNoneGreater(front.scores[one], front.scores[other] + distance);
        }
    }

    /** The boxes in which no plan can be, and how much lies behind the front. */
    private static final class Behind {
        static final int MOST_SCORES = 12;
        /** Each aim's numbers of the scores, and its end. */
        static final int MOST_LEVELS = MOST_SCORES + 1;
        /** All aims but the last are free; the last one's number follows from theirs. */
        static final int MOST_BOXES = MOST_LEVELS * MOST_LEVELS * MOST_LEVELS;

        final long[] corners = new long[MOST_BOXES];
        int size;
        long content;
        private boolean worked;
        private final int[][] levels = new int[MOST_AIMS][MOST_LEVELS];
        private final int[] ends = new int[MOST_AIMS];
        private final int[] chosen = new int[MOST_AIMS];
        private int last;
        private long ones;

        void forget() {
            worked = false;
        }

        boolean fits(Front front) {
            return front.size > 0 && front.size <= MOST_SCORES;
        }

        /** Kept till the front may change: box() is asked for one number at a time. */
        void work(Front front, int aims) {
            if (worked || aims < 1 || !fits(front)) {
                return;
            }
            worked = true;
            size = 0;
            content = 0;
            last = aims - 1;
            ones = 0;
            for (int aim = 0; aim < aims; aim++) {
                ones += 1L << Packed.place(aim);
                setLevels(front, aim);
                chosen[aim] = 0;
            }
            int rounds = 0;
            do {
                long open = openCorner();
                addBox(front, open);
                addContent(front, open);
                rounds++;
            } while (chooseNext() && rounds < MOST_BOXES);
        }

        /** Puts an aim's numbers in order, each once, and its end behind them. */
        private void setLevels(Front front, int aim) {
            int count = 0;
            for (int k = 0; k < front.size; k++) {
                count = putLevel(levels[aim], count, front.number(k, aim));
            }
            if (count > 0 && count < MOST_LEVELS) {
                levels[aim][count] = levels[aim][count - 1] + 1;
                ends[aim] = count;
            }
        }

        private int putLevel(int[] row, int count, int number) {
            int place = 0;
            while (place < count && row[place] < number) {
                place++;
            }
            if (place < count && row[place] == number || count >= MOST_SCORES) {
                return count;
            }
            System.arraycopy(row, place, row, place + 1, count - place);
            row[place] = number;
            return count + 1;
        }

        /** To the next choice of levels, in order, for all aims but the last: false when there is none. */
        private boolean chooseNext() {
            for (int aim = last - 1; aim >= 0; aim--) {
                if (chosen[aim] < ends[aim]) {
                    chosen[aim]++;
                    return true;
                }
                chosen[aim] = 0;
            }
            return false;
        }

        /** The chosen levels, with a number above all scores for the last aim. */
        private long openCorner() {
            long corner = Packed.lane(last, Packed.HIGHEST);
            for (int aim = 0; aim < last; aim++) {
                corner += Packed.lane(aim, levels[aim][chosen[aim]]);
            }
            return corner;
        }

        /** The greatest last number that keeps all scores out makes a box, if no other number can grow. */
        private void addBox(Front front, long open) {
            int number = leastLast(front, open - ones);
            long corner = open - Packed.lane(last, Packed.HIGHEST) + Packed.lane(last, number);
            for (int aim = 0; aim < last; aim++) {
                if (chosen[aim] < ends[aim]) {
                    int more = levels[aim][chosen[aim] + 1] - levels[aim][chosen[aim]];
                    if (!holdsScore(front, corner + ((long) more << Packed.place(aim)))) {
                        return;
                    }
                }
            }
            if (size < MOST_BOXES) {
                corners[size] = corner;
                size++;
            }
        }

        /** From the chosen levels up to the next ones the same scores count: a slab at a time. */
        private void addContent(Front front, long open) {
            long slab = levels[last][ends[last]] - leastLast(front, open);
            for (int aim = 0; aim < last; aim++) {
                if (chosen[aim] >= ends[aim]) {
                    return;
                }
                slab *= levels[aim][chosen[aim] + 1] - levels[aim][chosen[aim]];
            }
            content += slab;
        }

        /** The least last number of the scores in no aim greater than the corner; the end without one. */
        private int leastLast(Front front, long corner) {
            int least = levels[last][ends[last]];
            for (int k = 0; k < front.size; k++) {
                if (Packed.inNoneGreater(front.scores[k], corner)) {
                    least = Math.min(least, front.number(k, last));
                }
            }
            return least;
        }

        private boolean holdsScore(Front front, long corner) {
            for (int k = 0; k < front.size; k++) {
                if (Packed.inNoneGreater(front.scores[k], corner - ones)) {
                    return true;
                }
            }
            return false;
        }
    }

    /** Goes up from a plan by small steps, and remembers where that ended. */
    private static final class Climber {
        final int[] place = new int[MOST_COLUMNS];
        boolean hasClimbed;

        /** Each step's score beats the one before, so that no point comes twice. */
        int climbFrom(Task task, int[] start) {
            System.arraycopy(start, 0, place, 0, MOST_COLUMNS);
            hasClimbed = true;
            long score = task.scoreOf(place);
            for (int steps = 0; steps < MOST_POINTS; steps++) {
                long next = step(task, score);
                if (next == NO_PLAN) {
                    return steps;
                }
                score = next;
            }
            return MOST_POINTS;
        }

        /** The score of the plan that was stepped to; NO_PLAN where one stays. */
        private long step(Task task, long score) {
            for (int c = 0; c < task.columns; c++) {
                int number = place[c];
                for (int move = -1; move <= 1; move += 2) {
                    place[c] = number + move;
                    long next = boundedScore(task, c);
                    if (next != NO_PLAN && next != score && Packed.inNoneGreater(next, score)) {
                        return next;
                    }
                }
                place[c] = number;
            }
            return NO_PLAN;
        }

        private long boundedScore(Task task, int moved) {
            if (place[moved] < task.low[moved] || place[moved] > task.high[moved]) {
                return NO_PLAN;
            }
            return task.scoreOf(place);
        }
    }
}

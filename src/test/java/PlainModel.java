import java.math.BigInteger;
import java.util.ArrayList;
import java.util.List;
import java.util.TreeSet;

/** The document word by word, without any thought of speed: what AimFronts is compared with. */
final class PlainModel {
    private static final int NONE = -1000000, OUTSIDE = -1000001, STATE = -1000002, ROOM = -1000003;

    private final List<int[]> columns = new ArrayList<>();
    private final List<Integer> rights = new ArrayList<>();
    private final int[][] terms = new int[8][8];
    private final List<int[]> parts = new ArrayList<>();
    private final int[][] costs = new int[4][8];
    private List<int[]> points = new ArrayList<>();
    private int gone;
    private List<int[]> front = new ArrayList<>();
    private List<Integer> picks = new ArrayList<>();
    private int[] climbed;
    private List<int[]> boxes;
    private Long volume;

    PlainModel() {
        anew();
    }

    private void anew() {
        points = new ArrayList<>();
        addPoints(new int[columns.size()], 0);
        gone = 0;
        front = new ArrayList<>();
        picks = new ArrayList<>();
        climbed = null;
        boxes = null;
        volume = null;
    }

    private void addPoints(int[] numbers, int c) {
        if (c == columns.size()) {
            points.add(numbers.clone());
            return;
        }
        for (int v = columns.get(c)[0]; v <= columns.get(c)[1]; v++) {
            numbers[c] = v;
            addPoints(numbers, c + 1);
        }
    }

    private static boolean out(int v, int low, int high) {
        return v < low || v > high;
    }

    private boolean noAim(int aim) {
        return out(aim, 0, parts.size() - 1);
    }

    private boolean noColumn(int column) {
        return out(column, 0, columns.size() - 1);
    }

    private boolean noScore(int k) {
        return out(k, 0, front.size() - 1);
    }

    int column(int low, int high) {
        if (out(low, -20, 20) || out(high, -20, 20) || low > high) {
            return OUTSIDE;
        }
        long count = high - low + 1;
        for (int[] c : columns) {
            count *= c[1] - c[0] + 1;
        }
        if (columns.size() == 8 || count > 2000) {
            return ROOM;
        }
        columns.add(new int[] {low, high});
        anew();
        return columns.size() - 1;
    }

    int row(int right) {
        if (out(right, -1000, 1000)) {
            return OUTSIDE;
        }
        if (rights.size() == 8) {
            return ROOM;
        }
        rights.add(right);
        anew();
        return rights.size() - 1;
    }

    int term(int row, int column, int a) {
        if (out(row, 0, rights.size() - 1) || noColumn(column) || out(a, -9, 9)) {
            return OUTSIDE;
        }
        int was = terms[row][column];
        terms[row][column] = a;
        anew();
        return was;
    }

    int aim() {
        if (parts.size() == 4) {
            return ROOM;
        }
        parts.add(new int[] {-2000, 2000});
        anew();
        return parts.size() - 1;
    }

    int cost(int aim, int column, int cost) {
        if (noAim(aim) || noColumn(column) || out(cost, -9, 9)) {
            return OUTSIDE;
        }
        int was = costs[aim][column];
        costs[aim][column] = cost;
        anew();
        return was;
    }

    int part(int aim, int from, int to) {
        if (noAim(aim) || out(from, -2000, 2000) || out(to, -2000, 2000) || from > to) {
            return OUTSIDE;
        }
        parts.set(aim, new int[] {from, to});
        anew();
        return 1;
    }

    int clear() {
        int was = columns.size();
        columns.clear();
        rights.clear();
        parts.clear();
        for (int[] row : terms) {
            java.util.Arrays.fill(row, 0);
        }
        for (int[] row : costs) {
            java.util.Arrays.fill(row, 0);
        }
        anew();
        return was;
    }

    private int sum(int[] factors, int[] numbers) {
        int sum = 0;
        for (int c = 0; c < columns.size(); c++) {
            sum += factors[c] * numbers[c];
        }
        return sum;
    }

    private int[] scoreOf(int[] point) {
        int[] score = new int[parts.size()];
        for (int a = 0; a < score.length; a++) {
            score[a] = sum(costs[a], point);
        }
        return score;
    }

    private boolean isPlan(int[] point) {
        for (int c = 0; c < columns.size(); c++) {
            if (out(point[c], columns.get(c)[0], columns.get(c)[1])) {
                return false;
            }
        }
        for (int r = 0; r < rights.size(); r++) {
            if (sum(terms[r], point) > rights.get(r)) {
                return false;
            }
        }
        int[] score = scoreOf(point);
        for (int a = 0; a < score.length; a++) {
            if (out(score[a], parts.get(a)[0], parts.get(a)[1])) {
                return false;
            }
        }
        return true;
    }

    private static boolean beats(int[] s, int[] t) {
        boolean less = false;
        for (int a = 0; a < s.length; a++) {
            if (s[a] > t[a]) {
                return false;
            }
            less |= s[a] < t[a];
        }
        return less;
    }

    private List<int[]> plansGone() {
        List<int[]> plans = new ArrayList<>();
        for (int n = 0; n < gone; n++) {
            if (isPlan(points.get(n))) {
                plans.add(points.get(n));
            }
        }
        return plans;
    }

    int run(int count) {
        if (out(count, 0, 2000)) {
            return OUTSIDE;
        }
        if (parts.isEmpty()) {
            return STATE;
        }
        gone = Math.min(points.size(), gone + count);
        picks = new ArrayList<>();
        boxes = null;
        volume = null;
        TreeSet<int[]> scores = new TreeSet<>(java.util.Arrays::compare);
        for (int[] plan : plansGone()) {
            scores.add(scoreOf(plan));
        }
        front = new ArrayList<>();
        for (int[] s : scores) {
            boolean beaten = false;
            for (int[] t : scores) {
                beaten = beaten || beats(t, s);
            }
            if (!beaten) {
                front.add(s);
            }
        }
        return front.size();
    }

    /** For the tests alone: how many scores the front has. */
    int scores() {
        return front.size();
    }

    int left() {
        return points.size() - gone;
    }

    int plans() {
        return plansGone().size();
    }

    int score(int k, int aim) {
        return noScore(k) || noAim(aim) ? OUTSIDE : front.get(k)[aim];
    }

    int plan(int k, int column) {
        if (noScore(k) || noColumn(column)) {
            return OUTSIDE;
        }
        for (int[] plan : plansGone()) {
            if (java.util.Arrays.equals(scoreOf(plan), front.get(k))) {
                return plan[column];
            }
        }
        throw new IllegalStateException("a score without a plan");
    }

    int ties(int k) {
        if (noScore(k)) {
            return OUTSIDE;
        }
        int ties = 0;
        for (int[] plan : plansGone()) {
            if (java.util.Arrays.equals(scoreOf(plan), front.get(k))) {
                ties++;
            }
        }
        return ties;
    }

    int ideal(int aim) {
        if (noAim(aim)) {
            return OUTSIDE;
        }
        return front.stream().mapToInt(s -> s[aim]).min().orElse(STATE);
    }

    int nadir(int aim) {
        if (noAim(aim)) {
            return OUTSIDE;
        }
        return front.stream().mapToInt(s -> s[aim]).max().orElse(STATE);
    }

    /** A fraction as numerator and denominator, the latter above 0. */
    private BigInteger[] distance(int[] s, int aim) {
        int range = nadir(aim) - ideal(aim);
        int over = range == 0 ? 0 : s[aim] - ideal(aim);
        return new BigInteger[] {BigInteger.valueOf(over), BigInteger.valueOf(range == 0 ? 1 : range)};
    }

    private static int compare(BigInteger[] p, BigInteger[] q) {
        return p[0].multiply(q[1]).compareTo(q[0].multiply(p[1]));
    }

    private static BigInteger[] plus(BigInteger[] p, BigInteger[] q) {
        return new BigInteger[] {p[0].multiply(q[1]).add(q[0].multiply(p[1])), p[1].multiply(q[1])};
    }

    int knee(int rule) {
        if (out(rule, 0, 1)) {
            return OUTSIDE;
        }
        if (front.isEmpty()) {
            return STATE;
        }
        int best = -1;
        BigInteger[] least = null;
        for (int k = 0; k < front.size(); k++) {
            BigInteger[] all = {BigInteger.ZERO, BigInteger.ONE};
            for (int a = 0; a < parts.size(); a++) {
                BigInteger[] one = distance(front.get(k), a);
                all = rule == 0 ? plus(all, one) : compare(one, all) > 0 ? one : all;
            }
            if (least == null || compare(all, least) < 0) {
                best = k;
                least = all;
            }
        }
        return best;
    }

    int weighted(int a, int b, int c, int d) {
        int[] weights = {a, b, c, d};
        int all = 0;
        for (int i = 0; i < parts.size(); i++) {
            if (out(weights[i], 0, 100)) {
                return OUTSIDE;
            }
            all += weights[i];
        }
        if (front.isEmpty() || all == 0) {
            return STATE;
        }
        int best = 0;
        for (int k = 1; k < front.size(); k++) {
            if (weight(front.get(k), weights) < weight(front.get(best), weights)) {
                best = k;
            }
        }
        return best;
    }

    private static int weight(int[] s, int[] weights) {
        int sum = 0;
        for (int a = 0; a < s.length; a++) {
            sum += s[a] * weights[a];
        }
        return sum;
    }

    int first(int a, int b, int c, int d) {
        List<Integer> aims = new ArrayList<>();
        for (int aim : new int[] {a, b, c, d}) {
            if (aim == NONE) {
                break;
            }
            if (noAim(aim)) {
                return OUTSIDE;
            }
            aims.add(aim);
        }
        if (front.isEmpty()) {
            return STATE;
        }
        List<int[]> these = new ArrayList<>(front);
        for (int aim : aims) {
            int least = these.stream().mapToInt(s -> s[aim]).min().getAsInt();
            these.removeIf(s -> s[aim] != least);
        }
        return front.indexOf(these.get(0));
    }

    int under(int a, int b, int c, int d) {
        int[] levels = {a, b, c, d};
        for (int k = 0; k < front.size(); k++) {
            boolean greater = false;
            for (int i = 0; i < parts.size(); i++) {
                greater |= front.get(k)[i] > levels[i];
            }
            if (!greater) {
                return k;
            }
        }
        return NONE;
    }

    private static boolean near(int[] s, int[] t, int d) {
        for (int a = 0; a < s.length; a++) {
            if (s[a] - t[a] > d) {
                return false;
            }
        }
        return true;
    }

    int cover(int d) {
        if (out(d, 0, 4000)) {
            return OUTSIDE;
        }
        if (front.size() > 100) {
            return STATE;
        }
        picks = new ArrayList<>();
        List<int[]> open = new ArrayList<>(front);
        while (!open.isEmpty()) {
            int best = -1;
            long most = -1;
            for (int k = 0; k < front.size(); k++) {
                int[] s = front.get(k);
                long near = open.stream().filter(t -> near(s, t, d)).count();
                if (near > most) {
                    best = k;
                    most = near;
                }
            }
            picks.add(best);
            int[] picked = front.get(best);
            open.removeIf(t -> near(picked, t, d));
        }
        return picks.size();
    }

    int picked(int i) {
        return out(i, 0, picks.size() - 1) ? OUTSIDE : picks.get(i);
    }

    private TreeSet<Integer> numbersOf(int aim) {
        TreeSet<Integer> numbers = new TreeSet<>();
        for (int[] s : front) {
            numbers.add(s[aim]);
        }
        numbers.add(nadir(aim) + 1);
        return numbers;
    }

    private boolean someLessInAll(int[] row) {
        for (int[] s : front) {
            boolean less = true;
            for (int a = 0; a < s.length; a++) {
                less &= s[a] < row[a];
            }
            if (less) {
                return true;
            }
        }
        return false;
    }

    private boolean isBox(int[] row, List<TreeSet<Integer>> numbers) {
        if (someLessInAll(row)) {
            return false;
        }
        for (int a = 0; a < row.length; a++) {
            Integer next = numbers.get(a).higher(row[a]);
            if (next != null) {
                int[] other = row.clone();
                other[a] = next;
                if (!someLessInAll(other)) {
                    return false;
                }
            }
        }
        return true;
    }

    private void addBoxes(int[] row, int aim, List<TreeSet<Integer>> numbers) {
        if (aim == row.length) {
            if (isBox(row, numbers)) {
                boxes.add(row.clone());
            }
            return;
        }
        for (int v : numbers.get(aim)) {
            row[aim] = v;
            addBoxes(row, aim + 1, numbers);
        }
    }

    private boolean boxesRefused() {
        return front.isEmpty() || front.size() > 12;
    }

    private List<int[]> allBoxes() {
        if (boxes == null) {
            boxes = new ArrayList<>();
            List<TreeSet<Integer>> numbers = new ArrayList<>();
            for (int a = 0; a < parts.size(); a++) {
                numbers.add(numbersOf(a));
            }
            addBoxes(new int[parts.size()], 0, numbers);
        }
        return boxes;
    }

    int boxes() {
        return boxesRefused() ? STATE : allBoxes().size();
    }

    int box(int i, int aim) {
        if (noAim(aim)) {
            return OUTSIDE;
        }
        if (boxesRefused()) {
            return STATE;
        }
        return out(i, 0, allBoxes().size() - 1) ? OUTSIDE : allBoxes().get(i)[aim];
    }

    /** By adding and taking off what each set of scores has in common. */
    long volume() {
        if (front.isEmpty()) {
            return 0;
        }
        if (front.size() > 12) {
            return NONE;
        }
        if (volume == null) {
            BigInteger all = BigInteger.ZERO;
            for (int set = 1; set < 1 << front.size(); set++) {
                BigInteger common = BigInteger.ONE;
                for (int a = 0; a < parts.size(); a++) {
                    int most = Integer.MIN_VALUE;
                    for (int k = 0; k < front.size(); k++) {
                        if ((set >> k & 1) == 1) {
                            most = Math.max(most, front.get(k)[a]);
                        }
                    }
                    common = common.multiply(BigInteger.valueOf(nadir(a) + 1 - most));
                }
                all = Integer.bitCount(set) % 2 == 1 ? all.add(common) : all.subtract(common);
            }
            volume = all.longValueExact();
        }
        return volume;
    }

    int climb(int n) {
        if (out(n, 0, points.size() - 1)) {
            return OUTSIDE;
        }
        if (parts.isEmpty() || !isPlan(points.get(n))) {
            return STATE;
        }
        int[] here = points.get(n).clone();
        int steps = 0;
        for (int[] next = better(here); next != null; next = better(here)) {
            here = next;
            steps++;
        }
        climbed = here;
        return steps;
    }

    private int[] better(int[] here) {
        for (int c = 0; c < columns.size(); c++) {
            for (int move : new int[] {-1, 1}) {
                int[] next = here.clone();
                next[c] += move;
                if (isPlan(next) && beats(scoreOf(next), scoreOf(here))) {
                    return next;
                }
            }
        }
        return null;
    }

    int climbed(int column) {
        if (noColumn(column)) {
            return OUTSIDE;
        }
        return climbed == null ? STATE : climbed[column];
    }
}

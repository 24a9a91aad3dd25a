import java.util.ArrayList;
import java.util.Comparator;
import java.util.HashMap;
import java.util.HashSet;
import java.util.List;
import java.util.Map;
import java.util.Random;
import java.util.Set;
import java.util.TreeSet;

// Runs of chosen calls, each answer held against a slow model that follows the document's words.
public final class ModelTest {
    private static final int BAD = -1, STATE = -2, FULL = -3, NONE = -4;
    private static final int RUNS = 700;
    // An object is promised for 512 calls; the last step of a run may make some twenty.
    private static final int CALLS = 480;
    private static final int[] ODD = {
        Integer.MIN_VALUE, Integer.MIN_VALUE + 1, -1001, -101, -7, -6, -5, -4, -3, -2, -1, 0, 1, 2, 3, 4, 5, 6, 7, 8,
        36, 37, 101, 1001, 715827883, 1431655766, Integer.MAX_VALUE - 1, Integer.MAX_VALUE};

    private static int wrong = 0;

    public static void main(String[] args) {
        for (int run = 0; run < RUNS && wrong < 20; run++) {
            new Run(run).go();
        }
        System.out.println(wrong == 0 ? "all answers are as due" : wrong + " answers are not as due");
        if (wrong != 0) {
            System.exit(1);
        }
    }

    /** One object and its model, called alike. */
    private static final class Run {
        private final int number;
        private final Random chance;
        private final SwellBodies real = new SwellBodies();
        private final Model model = new Model();
        private final int width;
        private int calls;

        Run(int number) {
            this.number = number;
            this.chance = new Random(7919L * number + 1);
            this.width = 1 + number % 5;
        }

        void go() {
            while (calls < CALLS && wrong < 20) {
                int choice = chance.nextInt(100);
                if (choice < 14) {
                    draftShape();
                } else if (choice < 22) {
                    sheaves();
                } else if (choice < 37) {
                    make();
                } else {
                    ask();
                }
            }
        }

        private void due(String call, long got, long want) {
            calls++;
            if (got != want) {
                wrong++;
                System.out.println("run " + number + ": " + call + " answered " + got + ", due is " + want);
            }
        }

        private int in(int least, int most) {
            return least + chance.nextInt(most - least + 1);
        }

        /** Mostly a number as told, at times an odd one. */
        private int some(int least, int most) {
            return chance.nextInt(14) == 0 ? ODD[chance.nextInt(ODD.length)] : in(least, most);
        }

        private int someBody() {
            return some(0, Math.max(0, model.bodies.size() - 1));
        }

        private void corner(int x, int y, int z) {
            due("corner(" + x + ", " + y + ", " + z + ")", real.corner(x, y, z), model.corner(x, y, z));
        }

        private void draftShape() {
            int points = in(1, 7);
            int shape = chance.nextInt(8);
            int[] along = {in(-2, 2), in(-2, 2), in(-2, 2)};
            int[] across = {in(-2, 2), in(-2, 2), in(-2, 2)};
            for (int i = 0; i < points; i++) {
                int t = in(-2, 2);
                int u = shape == 0 ? 0 : in(-1, 1);
                if (shape < 3) {
                    corner(t * along[0] + u * across[0], t * along[1] + u * across[1], t * along[2] + u * across[2]);
                } else if (shape == 3) {
                    corner(along[0], in(-width, width), across[2]);
                } else if (shape == 4) {
                    corner(along[0] * (t > 0 ? 1 : -1), along[1] * (u > 0 ? 1 : -1), in(0, 1));
                } else {
                    corner(some(-width, width), some(-width, width), some(-width, width));
                }
            }
            if (chance.nextInt(10) == 0) {
                due("clear()", real.clear(), model.clear());
            }
            if (chance.nextInt(3) != 0) {
                due("body()", real.body(), model.body());
            }
        }

        private void sheaves() {
            int k = some(0, 3);
            int lane = some(0, 1);
            int n = chance.nextInt(4) == 0 ? some(-2, 38) : in(0, 12);
            due("sheaf(" + k + ", " + lane + ", " + n + ")", real.sheaf(k, lane, n), model.sheaf(k, lane, n));
            for (int i = 0; i < 6; i++) {
                int at = some(0, 12);
                long v = chance.nextInt(8) == 0 ? in(-7, 7) + (1L << 32) * in(-1, 1) : in(-5, 5);
                int of = chance.nextInt(5) == 0 ? some(0, 3) : k;
                due("lay(" + of + ", " + at + ", " + v + ")", real.lay(of, at, v), model.lay(of, at, v));
            }
            for (int i = 0; i < 2; i++) {
                int from = chance.nextInt(4) == 0 ? some(0, 3) : k;
                int as = chance.nextInt(4) == 0 ? some(0, 1) : lane;
                int m = some(0, 4);
                due("draw(" + from + ", " + as + ", " + m + ")", real.draw(from, as, m), model.draw(from, as, m));
            }
            due("all(1)", real.all(1), model.all(1));
        }

        private void make() {
            int b = someBody();
            switch (chance.nextInt(6)) {
                case 0 -> {
                    int x = some(-3, 3);
                    int y = some(-3, 3);
                    int z = some(-3, 3);
                    due("move(" + b + ", " + x + ", " + y + ", " + z + ")", real.move(b, x, y, z),
                        model.move(b, x, y, z));
                }
                case 1 -> {
                    int way = some(0, 4);
                    due("turn(" + b + ", " + way + ")", real.turn(b, way), model.turn(b, way));
                }
                case 2 -> {
                    int other = someBody();
                    due("join(" + b + ", " + other + ")", real.join(b, other), model.join(b, other));
                }
                case 3 -> {
                    int way = some(0, 2);
                    int v = some(-width, width);
                    due("slice(" + b + ", " + way + ", " + v + ")", real.slice(b, way, v), model.slice(b, way, v));
                }
                case 4 -> {
                    for (int i = in(1, 3); i > 0; i--) {
                        due("drop()", real.drop(), model.drop());
                    }
                }
                default -> due("body()", real.body(), model.body());
            }
            lookAt(model.bodies.size() - 1);
        }

        /** All that can be seen of a body, if the run has so many calls left. */
        private void lookAt(int b) {
            if (calls + 5 + 3 * (model.about(b, 2) + 2) + 5 * (model.about(b, 3) + 6) > CALLS) {
                return;
            }
            for (int what = 0; what <= 4; what++) {
                due("about(" + b + ", " + what + ")", real.about(b, what), model.about(b, what));
            }
            for (int i = 0; i <= Math.max(0, model.about(b, 2)); i++) {
                for (int what = 0; what < 3; what++) {
                    due("cornerOf(" + b + ", " + i + ", " + what + ")", real.cornerOf(b, i, what),
                        model.cornerOf(b, i, what));
                }
            }
            for (int i = NONE; i <= Math.max(0, model.about(b, 3)); i++) {
                for (int what = 0; what < 4; what++) {
                    due("side(" + b + ", " + i + ", " + what + ")", real.side(b, i, what), model.side(b, i, what));
                }
                due("on(" + b + ", " + i + ")", real.on(b, i), model.on(b, i));
            }
        }

        private void ask() {
            int b = someBody();
            int n = some(1, chance.nextInt(4) == 0 ? 5 : 3);
            int other = someBody();
            int i = some(0, 3);
            switch (chance.nextInt(12)) {
                case 0 -> due("about(" + b + ", " + i + ")", real.about(b, i), model.about(b, i));
                case 1 -> due("count(" + b + ", " + n + ")", real.count(b, n), model.count(b, n));
                case 2 -> due("inner(" + b + ", " + n + ")", real.inner(b, n), model.inner(b, n));
                case 3 -> due("number(" + b + ", " + i + ")", real.number(b, i), model.number(b, i));
                case 4 -> {
                    int at = some(-1000, 1000);
                    due("rule(" + b + ", " + at + ")", real.rule(b, at), model.rule(b, at));
                }
                case 5 -> due("stairs(" + b + ", " + i + ")", real.stairs(b, i), model.stairs(b, i));
                case 6 -> askPoints(b, n);
                case 7 -> askPlace(b);
                case 8 -> {
                    due("within(" + b + ", " + other + ")", real.within(b, other), model.within(b, other));
                    due("same(" + b + ", " + other + ")", real.same(b, other), model.same(b, other));
                }
                case 9 -> {
                    int x = some(-100, 100);
                    int y = some(-100, 100);
                    int z = some(-100, 100);
                    boolean high = chance.nextBoolean();
                    due("most(" + b + ", " + x + ", " + y + ", " + z + ", " + high + ")",
                        real.most(b, x, y, z, high), model.most(b, x, y, z, high));
                }
                case 10 -> due("all(" + i + ")", real.all(i), model.all(i));
                default -> {
                    due("cornerOf(" + b + ", " + i + ", 1)", real.cornerOf(b, i, 1), model.cornerOf(b, i, 1));
                    due("side(" + b + ", " + i + ", 3)", real.side(b, i, 3), model.side(b, i, 3));
                    due("on(" + b + ", " + i + ")", real.on(b, i), model.on(b, i));
                }
            }
        }

        private void askPoints(int b, int n) {
            int total = Math.max(0, model.count(b, n));
            for (int round = 0; round < 6; round++) {
                int i = some(0, round == 0 ? total : Math.max(0, total - 1));
                int what = some(0, 2);
                due("point(" + b + ", " + n + ", " + i + ", " + what + ")", real.point(b, n, i, what),
                    model.point(b, n, i, what));
                boolean near = chance.nextBoolean();
                int x = near ? some(-2 * width, 2 * width) : model.point(b, n, i, 0);
                int y = near ? some(-2 * width, 2 * width) : model.point(b, n, i, 1);
                int z = near ? some(-2 * width, 2 * width) : model.point(b, n, i, 2);
                due("rank(" + b + ", " + n + ", " + x + ", " + y + ", " + z + ")", real.rank(b, n, x, y, z),
                    model.rank(b, n, x, y, z));
            }
        }

        private void askPlace(int b) {
            for (int round = 0; round < 4; round++) {
                int q = chance.nextInt(8) == 0 ? some(1, 1000) : in(1, 4);
                int most = Math.min(100000, Math.max(1, Math.abs(q % 1001)) * width);
                int x = some(-most, most);
                int y = some(-most, most);
                int z = some(-most, most);
                if (chance.nextBoolean() && b >= 0 && b < model.bodies.size() && q >= 2 && q <= 1000) {
                    // A sum of corners with shares, so that flat bodies are met as well.
                    List<int[]> corners = model.bodies.get(b).corners;
                    int[] one = corners.get(chance.nextInt(corners.size()));
                    int[] two = corners.get(chance.nextInt(corners.size()));
                    int share = in(0, q);
                    x = share * one[0] + (q - share) * two[0];
                    y = share * one[1] + (q - share) * two[1];
                    z = share * one[2] + (q - share) * two[2];
                }
                due("has(" + b + ", " + x + ", " + y + ", " + z + ", " + q + ")", real.has(b, x, y, z, q),
                    model.has(b, x, y, z, q));
            }
        }
    }

    /** The document in its own words, with Java's own faults for the sheaves. */
    private static final class Model {
        final List<int[]> draft = new ArrayList<>();
        final Object[] sheaves = new Object[4];
        final List<Shape> bodies = new ArrayList<>();

        private boolean isBody(int b) {
            return b >= 0 && b < bodies.size();
        }

        private static boolean told(long v, long most) {
            return -most <= v && v <= most;
        }

        int corner(int x, int y, int z) {
            if (!told(x, 5) || !told(y, 5) || !told(z, 5)) {
                return BAD;
            }
            if (draft.size() == 12) {
                return FULL;
            }
            draft.add(new int[] {x, y, z});
            return draft.size();
        }

        int sheaf(int k, int lane, int n) {
            if (k < 0 || k > 3 || lane < 0 || lane > 1 || n > 36) {
                return BAD;
            }
            try {
                sheaves[k] = lane == 0 ? new int[n] : new long[n];
                return 1;
            } catch (NegativeArraySizeException fault) {
                return -14;
            }
        }

        int lay(int k, int i, long v) {
            if (k < 0 || k > 3) {
                return BAD;
            }
            try {
                if (sheaves[k] instanceof int[] ints) {
                    ints[i] = (int) v;
                } else {
                    ((long[]) sheaves[k])[i] = v;
                }
                return 1;
            } catch (NullPointerException fault) {
                return -11;
            } catch (ArrayIndexOutOfBoundsException fault) {
                return -12;
            }
        }

        int draw(int k, int lane, int n) {
            if (k < 0 || k > 3 || lane < 0 || lane > 1 || n < 0) {
                return BAD;
            }
            if (sheaves[k] == null) {
                return -11;
            }
            List<int[]> came = new ArrayList<>();
            try {
                int[] ints = lane == 0 ? (int[]) sheaves[k] : null;
                long[] longs = lane == 1 ? (long[]) sheaves[k] : null;
                for (int p = 0; p < n; p++) {
                    long[] point = new long[3];
                    for (int i = 0; i < 3; i++) {
                        point[i] = lane == 0 ? ints[3 * p + i] : longs[3 * p + i];
                    }
                    if (!told(point[0], 5) || !told(point[1], 5) || !told(point[2], 5)) {
                        return BAD;
                    }
                    if (draft.size() + came.size() == 12) {
                        return FULL;
                    }
                    came.add(new int[] {(int) point[0], (int) point[1], (int) point[2]});
                }
            } catch (ClassCastException fault) {
                return -13;
            } catch (ArrayIndexOutOfBoundsException fault) {
                return -12;
            }
            draft.addAll(came);
            return draft.size();
        }

        int clear() {
            int had = draft.size();
            draft.clear();
            return had;
        }

        int body() {
            if (draft.isEmpty()) {
                return STATE;
            }
            if (bodies.size() == 8) {
                return FULL;
            }
            List<int[]> points = new ArrayList<>(draft);
            draft.clear();
            return add(points);
        }

        private int add(List<int[]> points) {
            if (bodies.size() == 8) {
                return FULL;
            }
            bodies.add(new Shape(points));
            return bodies.size() - 1;
        }

        int drop() {
            if (bodies.isEmpty()) {
                return NONE;
            }
            bodies.remove(bodies.size() - 1);
            return bodies.size();
        }

        int about(int b, int what) {
            if (!isBody(b) || what < 0 || what > 4) {
                return BAD;
            }
            Shape s = bodies.get(b);
            return new int[] {s.kind(), s.fills, s.corners.size(), s.sides.size(), s.madeOf}[what];
        }

        int cornerOf(int b, int i, int what) {
            if (!isBody(b) || i < 0 || i >= bodies.get(b).corners.size() || what < 0 || what > 2) {
                return 1000;
            }
            return bodies.get(b).corners.get(i)[what];
        }

        int side(int b, int i, int what) {
            if (!isBody(b) || what < 0 || what > 3) {
                return 1000;
            }
            Shape s = bodies.get(b);
            if (i == NONE && s.fills == 2) {
                return s.bond[what];
            }
            return i >= 0 && i < s.sides.size() ? s.sides.get(i)[what] : 1000;
        }

        int on(int b, int i) {
            if (!isBody(b) || i < 0 || i >= bodies.get(b).sides.size()) {
                return BAD;
            }
            int[] side = bodies.get(b).sides.get(i);
            return (int) bodies.get(b).corners.stream().filter(c -> Shape.dot(side, c) == side[3]).count();
        }

        int has(int b, int x, int y, int z, int q) {
            if (!isBody(b) || q < 1 || q > 1000 || !told(x, 100000) || !told(y, 100000) || !told(z, 100000)) {
                return BAD;
            }
            return bodies.get(b).place(x, y, z, q);
        }

        int count(int b, int n) {
            return !isBody(b) || n < 0 || n > 5 ? BAD : bodies.get(b).points(n).size();
        }

        int inner(int b, int n) {
            return !isBody(b) || n < 1 || n > 5 ? BAD : bodies.get(b).inner(n);
        }

        int number(int b, int k) {
            return !isBody(b) || k < 0 || k > 3 ? -1000000 : (int) bodies.get(b).rule()[k];
        }

        long rule(int b, int n) {
            if (!isBody(b) || !told(n, 1000)) {
                return BAD;
            }
            long[] six = bodies.get(b).rule();
            long m = n;
            return (six[0] + six[1] * m + six[2] * m * m + six[3] * m * m * m) / 6;
        }

        int stairs(int b, int i) {
            if (!isBody(b) || i < 0 || i > bodies.get(b).fills) {
                return BAD;
            }
            int[][] choose = {{1, 1}, {1, 2, 1}, {1, 3, 3, 1}, {1, 4, 6, 4, 1}};
            int sum = 0;
            for (int j = 0; j <= i; j++) {
                int term = choose[bodies.get(b).fills][j] * bodies.get(b).points(i - j).size();
                sum += j % 2 == 0 ? term : -term;
            }
            return sum;
        }

        int point(int b, int n, int i, int what) {
            if (!isBody(b) || n < 1 || n > 5 || what < 0 || what > 2) {
                return 10000;
            }
            List<int[]> points = bodies.get(b).points(n);
            return i < 0 || i >= points.size() ? 10000 : points.get(i)[what];
        }

        int rank(int b, int n, int x, int y, int z) {
            if (!isBody(b) || n < 1 || n > 5) {
                return BAD;
            }
            List<int[]> points = bodies.get(b).points(n);
            for (int i = 0; i < points.size(); i++) {
                int[] p = points.get(i);
                if (p[0] == x && p[1] == y && p[2] == z) {
                    return i;
                }
            }
            return NONE;
        }

        private int addTold(List<long[]> points) {
            List<int[]> small = new ArrayList<>();
            for (long[] p : points) {
                if (!told(p[0], 5) || !told(p[1], 5) || !told(p[2], 5)) {
                    return BAD;
                }
                small.add(new int[] {(int) p[0], (int) p[1], (int) p[2]});
            }
            return add(small);
        }

        int move(int b, int x, int y, int z) {
            if (!isBody(b)) {
                return BAD;
            }
            List<long[]> moved = new ArrayList<>();
            for (int[] c : bodies.get(b).corners) {
                moved.add(new long[] {(long) c[0] + x, (long) c[1] + y, (long) c[2] + z});
            }
            return addTold(moved);
        }

        int turn(int b, int way) {
            if (!isBody(b) || way < 0 || way > 4) {
                return BAD;
            }
            // Row by row what the new x, y, z have of the old.
            long[][][] turns = {
                {{0, 1, 0}, {1, 0, 0}, {0, 0, 1}}, {{1, 0, 0}, {0, 0, 1}, {0, 1, 0}},
                {{-1, 0, 0}, {0, 1, 0}, {0, 0, 1}}, {{1, 1, 0}, {0, 1, 0}, {0, 0, 1}},
                {{1, 0, 0}, {0, 1, 0}, {-1, 0, 1}}};
            List<long[]> turned = new ArrayList<>();
            for (int[] c : bodies.get(b).corners) {
                long[] p = new long[3];
                for (int i = 0; i < 3; i++) {
                    for (int j = 0; j < 3; j++) {
                        p[i] += turns[way][i][j] * c[j];
                    }
                }
                turned.add(p);
            }
            return addTold(turned);
        }

        int join(int a, int b) {
            if (!isBody(a) || !isBody(b)) {
                return BAD;
            }
            List<int[]> both = new ArrayList<>(bodies.get(a).corners);
            both.addAll(bodies.get(b).corners);
            return both.size() > 40 ? FULL : add(both);
        }

        int slice(int b, int way, int v) {
            if (!isBody(b) || way < 0 || way > 2) {
                return BAD;
            }
            List<int[]> cut = new ArrayList<>();
            for (int[] p : bodies.get(b).points(1)) {
                if (p[way] == v) {
                    cut.add(p);
                }
            }
            return cut.isEmpty() ? NONE : add(cut);
        }

        int within(int a, int b) {
            if (!isBody(a) || !isBody(b)) {
                return BAD;
            }
            for (int[] c : bodies.get(a).corners) {
                if (!bodies.get(b).between(c[0], c[1], c[2], 1)) {
                    return 0;
                }
            }
            return 1;
        }

        int same(int a, int b) {
            if (!isBody(a) || !isBody(b)) {
                return BAD;
            }
            Set<String> want = bodies.get(b).movedNames(0, 0, 0);
            for (int x = -10; x <= 10; x++) {
                for (int y = -10; y <= 10; y++) {
                    for (int z = -10; z <= 10; z++) {
                        int[] first = bodies.get(a).corners.get(0);
                        boolean leads = want.contains((first[0] + x) + " " + (first[1] + y) + " " + (first[2] + z));
                        if (leads && bodies.get(a).movedNames(x, y, z).equals(want)) {
                            return x == 0 && y == 0 && z == 0 ? 2 : 1;
                        }
                    }
                }
            }
            return 0;
        }

        int most(int body, int a, int b, int c, boolean high) {
            if (!isBody(body) || !told(a, 100) || !told(b, 100) || !told(c, 100)) {
                return -1000000;
            }
            TreeSet<Integer> values = new TreeSet<>();
            for (int[] p : bodies.get(body).corners) {
                values.add(a * p[0] + b * p[1] + c * p[2]);
            }
            return high ? values.last() : values.first();
        }

        int all(int what) {
            if (what == 0) {
                return bodies.size();
            }
            if (what == 1) {
                return draft.size();
            }
            if (what != 2) {
                return BAD;
            }
            if (sheaves[0] == null) {
                return NONE;
            }
            return sheaves[0] instanceof int[] ints ? ints.length : ((long[]) sheaves[0]).length;
        }
    }

    /** A body by the document's definitions: "between" is a sum with shares, found simplex by simplex. */
    private static final class Shape {
        final int madeOf;
        final int fills;
        final List<int[]> corners = new ArrayList<>();
        final List<int[]> sides = new ArrayList<>();
        final int[] bond = new int[4];
        private final int[] axes;
        private final Map<Integer, List<int[]>> swellings = new HashMap<>();

        Shape(List<int[]> given) {
            madeOf = given.size();
            Map<String, int[]> unlike = new HashMap<>();
            for (int[] p : given) {
                unlike.put(p[0] + " " + p[1] + " " + p[2], p);
            }
            List<int[]> points = new ArrayList<>(unlike.values());
            points.sort(order());
            fills = rank(points);
            axes = axes(points);
            List<int[]> left = withoutMiddles(points, unlike.keySet());
            for (int i = 0; i < left.size(); i++) {
                List<int[]> others = new ArrayList<>(left);
                int[] p = others.remove(i);
                if (!covered(others, p[0], p[1], p[2], 1)) {
                    corners.add(p);
                }
            }
            findSides();
        }

        private static Comparator<int[]> order() {
            return Comparator.<int[]>comparingInt(p -> p[0]).thenComparingInt(p -> p[1]).thenComparingInt(p -> p[2]);
        }

        /** A point half way between two others is no corner; most are told by this alone. */
        private static List<int[]> withoutMiddles(List<int[]> points, Set<String> names) {
            List<int[]> left = new ArrayList<>();
            for (int[] p : points) {
                boolean middle = false;
                for (int[] r : points) {
                    String mirrored = (2 * p[0] - r[0]) + " " + (2 * p[1] - r[1]) + " " + (2 * p[2] - r[2]);
                    middle |= r != p && names.contains(mirrored);
                }
                if (!middle) {
                    left.add(p);
                }
            }
            return left;
        }

        static long dot(int[] a, int[] p) {
            return (long) a[0] * p[0] + (long) a[1] * p[1] + (long) a[2] * p[2];
        }

        private static int[] cross(int[] u, int[] v) {
            return new int[] {u[1] * v[2] - u[2] * v[1], u[2] * v[0] - u[0] * v[2], u[0] * v[1] - u[1] * v[0]};
        }

        private static int[] step(int[] from, int[] to) {
            return new int[] {to[0] - from[0], to[1] - from[1], to[2] - from[2]};
        }

        private static boolean nought(int[] u) {
            return u[0] == 0 && u[1] == 0 && u[2] == 0;
        }

        private static int rank(List<int[]> points) {
            int found = points.size() > 1 ? 1 : 0;
            for (int i = 1; i < points.size(); i++) {
                for (int j = 1; j < i; j++) {
                    int[] n = cross(step(points.get(0), points.get(i)), step(points.get(0), points.get(j)));
                    if (!nought(n)) {
                        found = Math.max(found, 2);
                        for (int[] p : points) {
                            if (dot(n, p) != dot(n, points.get(0))) {
                                return 3;
                            }
                        }
                    }
                }
            }
            return found;
        }

        /** As many directions as are filled, in which the shape does not fall together. */
        private int[] axes(List<int[]> points) {
            int[][] choices = {{}, {0}, {1}, {2}, {0, 1}, {0, 2}, {1, 2}, {0, 1, 2}};
            for (int[] choice : choices) {
                if (choice.length == fills) {
                    List<int[]> flat = new ArrayList<>();
                    for (int[] p : points) {
                        int[] shadow = new int[3];
                        for (int axis : choice) {
                            shadow[axis] = p[axis];
                        }
                        boolean there = false;
                        for (int[] f : flat) {
                            there |= nought(step(f, shadow));
                        }
                        if (!there) {
                            flat.add(shadow);
                        }
                    }
                    if (rank(flat) == fills) {
                        return choice;
                    }
                }
            }
            throw new IllegalStateException("no axes");
        }

        private static long det(long[][] m) {
            if (m.length == 1) {
                return m[0][0];
            }
            long sum = 0;
            for (int c = 0; c < m.length; c++) {
                long[][] less = new long[m.length - 1][m.length - 1];
                for (int i = 1; i < m.length; i++) {
                    for (int j = 0, to = 0; j < m.length; j++) {
                        if (j != c) {
                            less[i - 1][to++] = m[i][j];
                        }
                    }
                }
                sum += m[0][c] == 0 ? 0 : (c % 2 == 0 ? 1 : -1) * m[0][c] * det(less);
            }
            return sum;
        }

        private long[] shadow(long x, long y, long z, long q) {
            long[] p = {x, y, z};
            long[] row = new long[fills + 1];
            row[0] = q;
            for (int i = 0; i < fills; i++) {
                row[i + 1] = p[axes[i]];
            }
            return row;
        }

        /** Whether a point of the same space is a sum of others with shares. */
        private boolean covered(List<int[]> others, long x, long y, long z, long q) {
            return tryFrom(others, new long[fills + 1][], 0, 0, shadow(x, y, z, q));
        }

        private boolean tryFrom(List<int[]> others, long[][] rows, int chosen, int from, long[] p) {
            if (chosen == rows.length) {
                return inSimplex(rows, p);
            }
            for (int i = from; i < others.size(); i++) {
                int[] o = others.get(i);
                rows[chosen] = shadow(o[0], o[1], o[2], 1);
                if (tryFrom(others, rows, chosen + 1, i + 1, p)) {
                    return true;
                }
            }
            return false;
        }

        private static boolean inSimplex(long[][] rows, long[] p) {
            long whole = det(rows);
            if (whole == 0) {
                return false;
            }
            for (int i = 0; i < rows.length; i++) {
                long[] held = rows[i];
                rows[i] = p;
                long share = det(rows);
                rows[i] = held;
                if (share != 0 && share > 0 != whole > 0) {
                    return false;
                }
            }
            return true;
        }

        private boolean inSpace(long x, long y, long z, long q) {
            int[] first = corners.get(0);
            long[] p = {x - q * first[0], y - q * first[1], z - q * first[2]};
            if (fills == 3) {
                return true;
            }
            if (fills == 2) {
                return bond[0] * p[0] + bond[1] * p[1] + bond[2] * p[2] == 0;
            }
            int[] u = fills == 1 ? step(first, corners.get(1)) : new int[3];
            boolean inRow = u[0] * p[1] == u[1] * p[0] && u[1] * p[2] == u[2] * p[1] && u[0] * p[2] == u[2] * p[0];
            return fills == 1 ? inRow : p[0] == 0 && p[1] == 0 && p[2] == 0;
        }

        boolean between(long x, long y, long z, long q) {
            long[] p = {x, y, z};
            for (int i = 0; i < 3; i++) {
                final int way = i;
                long least = corners.stream().mapToInt(c -> c[way]).min().getAsInt();
                long most = corners.stream().mapToInt(c -> c[way]).max().getAsInt();
                if (p[i] < least * q || p[i] > most * q) {
                    return false;
                }
            }
            return inSpace(x, y, z, q) && covered(corners, x, y, z, q);
        }

        /** Within is what can still go a little further away from every corner. */
        int place(int x, int y, int z, int q) {
            if (!between(x, y, z, q)) {
                return 0;
            }
            long far = 1000000L;
            for (int[] c : corners) {
                long onX = far * x + x - (long) q * c[0];
                long onY = far * y + y - (long) q * c[1];
                long onZ = far * z + z - (long) q * c[2];
                if (!between(onX, onY, onZ, far * q)) {
                    return 1;
                }
            }
            return 2;
        }

        private void findSides() {
            TreeSet<int[]> found = new TreeSet<>(order());
            int m = corners.size();
            if (fills == 2) {
                for (int i = 1; i < m; i++) {
                    for (int j = 1; j < i; j++) {
                        int[] n = cross(step(corners.get(0), corners.get(i)), step(corners.get(0), corners.get(j)));
                        if (!nought(n)) {
                            int[] short1 = shortened(n);
                            int sign = short1[0] != 0 ? short1[0] : short1[1] != 0 ? short1[1] : short1[2];
                            for (int k = 0; k < 3; k++) {
                                bond[k] = sign < 0 ? -short1[k] : short1[k];
                            }
                        }
                    }
                }
                bond[3] = (int) dot(bond, corners.get(0));
            }
            for (int i = 0; i < m; i++) {
                for (int j = 0; j < m && fills > 0; j++) {
                    int[] u = step(corners.get(i), corners.get(j));
                    if (fills == 1 && i != j) {
                        consider(found, u, corners.get(j));
                    } else if (fills == 2 && i != j) {
                        consider(found, cross(u, bond), corners.get(j));
                    }
                    for (int k = 0; k < m && fills == 3; k++) {
                        consider(found, cross(u, step(corners.get(i), corners.get(k))), corners.get(i));
                    }
                }
            }
            sides.addAll(found);
        }

        private static int[] shortened(int[] n) {
            int divisor = 1;
            for (int d = 2; d <= Math.max(Math.abs(n[0]), Math.max(Math.abs(n[1]), Math.abs(n[2]))); d++) {
                if (n[0] % d == 0 && n[1] % d == 0 && n[2] % d == 0) {
                    divisor = d;
                }
            }
            return new int[] {n[0] / divisor, n[1] / divisor, n[2] / divisor, 0};
        }

        private void consider(TreeSet<int[]> found, int[] n, int[] through) {
            if (nought(n)) {
                return;
            }
            for (int[] c : corners) {
                if (dot(n, c) > dot(n, through)) {
                    return;
                }
            }
            int[] side = shortened(n);
            side[3] = (int) dot(side, through);
            found.add(side);
        }

        List<int[]> points(int n) {
            return swellings.computeIfAbsent(n, this::swell);
        }

        private List<int[]> swell(int n) {
            List<int[]> found = new ArrayList<>();
            if (n == 0) {
                found.add(new int[3]);
                return found;
            }
            int[] least = new int[3];
            int[] most = new int[3];
            for (int i = 0; i < 3; i++) {
                final int way = i;
                least[i] = n * corners.stream().mapToInt(c -> c[way]).min().getAsInt();
                most[i] = n * corners.stream().mapToInt(c -> c[way]).max().getAsInt();
            }
            for (int x = least[0]; x <= most[0]; x++) {
                for (int y = least[1]; y <= most[1]; y++) {
                    for (int z = least[2]; z <= most[2]; z++) {
                        int[] p = {x, y, z};
                        if (inSpace(x, y, z, n) && sides.stream().allMatch(s -> dot(s, p) <= (long) s[3] * n)) {
                            found.add(p);
                        }
                    }
                }
            }
            return found;
        }

        int inner(int n) {
            return (int) points(n).stream()
                .filter(p -> sides.stream().allMatch(s -> dot(s, p) < (long) s[3] * n)).count();
        }

        /** Lagrange: six times the coefficients of what goes through the counts from 0 on. */
        long[] rule() {
            long[] six = new long[4];
            for (int at = 0; at <= fills; at++) {
                long[] part = {1, 0, 0, 0};
                long divisor = 1;
                for (int other = 0; other <= fills; other++) {
                    if (other != at) {
                        long[] next = new long[4];
                        for (int k = 0; k < 4; k++) {
                            next[k] = (k > 0 ? part[k - 1] : 0) - other * part[k];
                        }
                        part = next;
                        divisor *= at - other;
                    }
                }
                for (int k = 0; k < 4; k++) {
                    six[k] += points(at).size() * part[k] * (6 / divisor);
                }
            }
            return six;
        }

        Set<String> movedNames(int x, int y, int z) {
            Set<String> names = new HashSet<>();
            for (int[] c : corners) {
                names.add((c[0] + x) + " " + (c[1] + y) + " " + (c[2] + z));
            }
            return names;
        }

        int kind() {
            Set<String> box = new HashSet<>();
            int[][] ends = new int[3][2];
            for (int i = 0; i < 3; i++) {
                final int way = i;
                ends[i][0] = corners.stream().mapToInt(c -> c[way]).min().getAsInt();
                ends[i][1] = corners.stream().mapToInt(c -> c[way]).max().getAsInt();
            }
            for (int i = 0; i < 8; i++) {
                box.add(ends[0][i & 1] + " " + ends[1][i >> 1 & 1] + " " + ends[2][i >> 2]);
            }
            if (box.equals(movedNames(0, 0, 0))) {
                Set<String> turned = new HashSet<>();
                for (int[] c : corners) {
                    turned.add(-c[0] + " " + -c[1] + " " + -c[2]);
                }
                return turned.equals(box) ? 4 : 3;
            }
            return corners.size() == fills + 1 ? 2 : fills < 3 ? 1 : 0;
        }
    }
}

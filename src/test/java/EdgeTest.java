import java.util.ArrayList;
import java.util.Arrays;
import java.util.List;
import java.util.Map;
import java.util.TreeMap;

// The document sentence by sentence: at each edge the last number that is taken and the first that is refused,
// which answer comes where two refusals fit at once, and that what is refused changes nothing.
public final class EdgeTest {
    private static final int BAD = -1, STATE = -2, FULL = -3, NONE = -4;
    private static final int NULL_FAULT = -11, INDEX_FAULT = -12, CAST_FAULT = -13, SIZE_FAULT = -14;
    private static final int NO_PART = 1000, NO_POINT = 10000, NO_NUMBER = -1000000;
    private static final int LEAST = Integer.MIN_VALUE, GREATEST = Integer.MAX_VALUE;
    private static final String[] WAYS = {"x", "y", "z"};

    // One body of each filling, as MIXED has them under the numbers 0 to 3.
    private static final int[] POINT = {1, 2, 3};
    private static final int[] ROW = {-1, -1, -1, 3, 1, 1};
    private static final int[] TRIANGLE = {2, 0, 0, 0, 2, 0, 0, 0, 2};
    private static final int[] OCTAHEDRON = {1, 0, 0, -1, 0, 0, 0, 1, 0, 0, -1, 0, 0, 0, 1, 0, 0, -1};
    private static final int[][] FILLING = {POINT, ROW, TRIANGLE, OCTAHEDRON};
    // All twelve are corners: they lie on one ball.
    private static final int[] TWELVE = {
        5, 1, 0, 5, -1, 0, -5, 1, 0, -5, -1, 0, 0, 5, 1, 0, 5, -1,
        0, -5, 1, 0, -5, -1, 1, 0, 5, -1, 0, 5, 1, 0, -5, -1, 0, -5};
    private static final long[] TWELVE_IN_ORDER = {
        -5, -1, 0, -5, 1, 0, -1, 0, -5, -1, 0, 5, 0, -5, -1, 0, -5, 1,
        0, 5, -1, 0, 5, 1, 1, 0, -5, 1, 0, 5, 5, -1, 0, 5, 1, 0};

    // No whole point lies in it but its corners.
    private static final int[] HOLLOW = {-3, -4, -5, 2, -4, 4, -5, -5, 4, 5, -5, -5};
    // All forty are corners, with seventy-six sides: no body within -5 to 5 that join can make has more.
    private static final int[] FORTY = {
        -3, -3, -3, -3, -4, 1, -5, 2, 1, -5, 1, -2, 2, 3, -4, 0, -4, 3, -4, -1, 3, 4, -3, 2, 0, 3, 4, -3, 0, -4,
        -1, -5, 0, 4, 2, 2, 1, 2, -5, -4, -3, -1, -1, 2, 5, 3, -4, 2, 0, 2, 5, 5, 0, 1, 3, -4, 1, 2, -3, -4,
        -3, 4, 1, 1, -5, -1, 0, 5, -2, 3, 4, 1, -1, 5, -1, 1, 1, 5, 0, -2, -5, 5, 1, 0, 2, -4, -2, -4, -3, 2,
        1, 5, 1, 2, -3, 4, -3, 0, 4, 0, -3, -4, -3, 4, -2, -3, 1, -4, 3, -2, -4, 5, 0, 2, 4, -1, 3, -1, -5, 2};

    private static final Setting NEW = s -> { };
    private static final Setting MIXED = EdgeTest::mixed;
    private static final Setting CROWDED = EdgeTest::crowded;

    private static int wrong = 0;
    private static int sentences = 0;
    private static String sentence = "";

    /** The calls that bring a new object to where a test begins. */
    private interface Setting {
        void build(SwellBodies s);
    }

    private interface Call {
        long on(SwellBodies s);
    }

    /** A call in which one number is left open. */
    private interface Sweep {
        long on(SwellBodies s, int v);
    }

    private record Asking(String told, long refusal, Sweep call) { }

    public static void main(String[] args) {
        terms();
        drafts();
        sheaves();
        bodies();
        shapes();
        swellings();
        newBodies();
        comparisons();
        calls();
        System.out.println(wrong == 0 ? "all answers are as due, " + sentences + " sentences"
            : wrong + " answers are not as due");
        if (wrong != 0) {
            System.exit(1);
        }
    }

    private static void terms() {
        answers();
        pointsGiven();
        draftOf12();
        sheavesAndLanes();
        cellsOfSheaves();
        faults();
        eightBodies();
        noSuchBody();
        askingChangesNothing();
    }

    private static void drafts() {
        newObject();
        corner();
        clear();
    }

    private static void sheaves() {
        sheaf();
        sheafIsNew();
        lay();
        layLowestBits();
        drawRefused();
        drawIndex();
        drawNumbers();
        drawFull();
        drawFirstMet();
    }

    private static void bodies() {
        body();
        drop();
        about();
        madeOf();
        cornerOf();
        side();
        bond();
        on();
    }

    private static void shapes() {
        corners();
        fillings();
        sidesFilling3();
        sidesFilling2();
        sidesFilling1();
        kinds();
        manyCorners();
        has();
        hasOnTheSkin();
    }

    private static void swellings() {
        count();
        inner();
        number();
        rule();
        stairs();
        point();
        pointsInOrder();
        rank();
        rankFarOut();
    }

    private static void newBodies() {
        move();
        turn();
        turnTooFar();
        join();
        slice();
        sliceOfFillings();
    }

    private static void comparisons() {
        within();
        same();
        most();
        all();
    }

    // ---- what the tests are made of ----

    private static void says(String words) {
        sentence = words;
        sentences++;
    }

    private static void due(String call, long got, long want) {
        if (got != want) {
            wrong++;
            System.out.println("'" + sentence + "': " + call + " answered " + got + ", due is " + want);
        }
    }

    private static void row(String call, long[] got, long... want) {
        if (!Arrays.equals(got, want)) {
            wrong++;
            System.out.println("'" + sentence + "': " + call + " answered " + Arrays.toString(got)
                + ", due is " + Arrays.toString(want));
        }
    }

    private static SwellBodies made(Setting setting) {
        SwellBodies s = new SwellBodies();
        setting.build(s);
        return s;
    }

    private static SwellBodies with(int... parts) {
        SwellBodies s = new SwellBodies();
        make(s, parts);
        return s;
    }

    private static void give(SwellBodies s, int... parts) {
        for (int i = 0; i + 2 < parts.length; i += 3) {
            s.corner(parts[i], parts[i + 1], parts[i + 2]);
        }
    }

    private static int make(SwellBodies s, int... parts) {
        give(s, parts);
        return s.body();
    }

    private static void lays(SwellBodies s, int k, int lane, int n, int... cells) {
        s.sheaf(k, lane, n);
        for (int i = 0; i < cells.length; i++) {
            s.lay(k, i, cells[i]);
        }
    }

    /** Bodies of each filling, two points of the draft, a sheaf of each lane, an empty one and nothing. */
    private static void mixed(SwellBodies s) {
        for (int[] parts : FILLING) {
            make(s, parts);
        }
        give(s, 1, 1, 1, -2, 0, 4);
        lays(s, 0, 0, 10, 1, 0, 0, 0, -5, 0, 0, 0, 5);
        lays(s, 1, 1, 36, TWELVE);
        s.sheaf(2, 0, 0);
    }

    /** All that can be full is full. */
    private static void crowded(SwellBodies s) {
        make(s, -5, 0, 0, 5, 0, 0);
        make(s, 5, 5, 5);
        make(s, TRIANGLE);
        make(s, OCTAHEDRON);
        make(s, 3, 2, 1, -3, -2, -1);
        make(s, TWELVE);
        make(s, 0, 0, 0, 2, 1, 0);
        make(s, 0, 0, 0);
        give(s, TWELVE);
        for (int k = 0; k < 4; k++) {
            lays(s, k, k % 2, 36, 5, k, 0, -5, k, 0, 0, 5, k);
        }
    }

    /** So many bodies, rows along x, and one point of the draft. */
    private static Setting rows(int bodies) {
        return s -> {
            for (int i = 0; i < bodies; i++) {
                make(s, 0, i - 4, 0, 1, i - 4, 0);
            }
            s.corner(2, 2, 2);
        };
    }

    private static Setting drafted(int points) {
        return s -> {
            for (int i = 0; i < points; i++) {
                s.corner(i % 5, i / 5, -i % 3);
            }
        };
    }

    private static Setting then(Setting setting, Call call) {
        return s -> {
            setting.build(s);
            call.on(s);
        };
    }

    private static long[] cornersOf(SwellBodies s, int b) {
        long[] found = new long[3 * Math.max(0, s.about(b, 2))];
        for (int i = 0; i < found.length; i++) {
            found[i] = s.cornerOf(b, i / 3, i % 3);
        }
        return found;
    }

    private static long[] sidesOf(SwellBodies s, int b) {
        long[] found = new long[4 * Math.max(0, s.about(b, 3))];
        for (int i = 0; i < found.length; i++) {
            found[i] = s.side(b, i / 4, i % 4);
        }
        return found;
    }

    private static long[] bondOf(SwellBodies s, int b) {
        long[] found = new long[4];
        for (int i = 0; i < 4; i++) {
            found[i] = s.side(b, NONE, i);
        }
        return found;
    }

    private static long[] aboutOf(SwellBodies s, int b) {
        long[] found = new long[5];
        for (int i = 0; i < 5; i++) {
            found[i] = s.about(b, i);
        }
        return found;
    }

    // ---- what can be seen of an object ----

    /** All that can be seen after a setting and a call; each part by an object of its own, as looking changes it. */
    private static Map<String, String> seen(Setting setting, Call call) {
        Map<String, String> parts = new TreeMap<>();
        Setting all = then(setting, call);
        parts.put("bodies", "" + made(all).all(0));
        for (int b = 0; b < 8; b++) {
            parts.put("body " + b, bodySeen(made(all), b));
        }
        parts.put("draft", draftSeen(made(all)));
        for (int k = 0; k < 4; k++) {
            parts.put("sheaf " + k, sheafSeen(made(all), k));
        }
        return parts;
    }

    private static String bodySeen(SwellBodies s, int b) {
        return Arrays.toString(aboutOf(s, b)) + Arrays.toString(cornersOf(s, b)) + Arrays.toString(sidesOf(s, b))
            + Arrays.toString(bondOf(s, b)) + s.count(b, 1) + " " + s.rule(b, -7);
    }

    private static String draftSeen(SwellBodies s) {
        int points = s.all(1);
        return points + " points " + draftCorners(s);
    }

    private static String draftCorners(SwellBodies s) {
        if (s.all(0) == 8) {
            s.drop();
        }
        int b = s.body();
        return s.about(b, 4) + " " + Arrays.toString(cornersOf(s, b));
    }

    private static String sheafSeen(SwellBodies s, int k) {
        s.clear();
        String found = "as ints " + s.draw(k, 0, 0) + ", as longs " + s.draw(k, 1, 0) + ", all(2) " + s.all(2);
        int lane = s.draw(k, 0, 0) == 0 ? 0 : 1;
        int points = 12;
        while (points > 0 && s.draw(k, lane, points) < 0) {
            points--;
        }
        found += ", points " + points + " " + draftCorners(s);
        int cells = 0;
        while (cells < 40 && s.lay(k, cells, 0) == 1) {
            cells++;
        }
        return found + ", cells " + cells;
    }

    /** A call that must leave all as it was: it is refused, or only asks. */
    private static void keeps(String told, Setting setting, Call call, long want) {
        changes(told, setting, call, want);
        SwellBodies s = made(setting);
        call.on(s);
        due(told + ", again", call.on(s), want);
    }

    /** A call that changes the parts named, and no other. */
    private static void changes(String told, Setting setting, Call call, long want, String... changed) {
        due(told, call.on(made(setting)), want);
        Map<String, String> before = seen(setting, s -> 0);
        Map<String, String> after = seen(setting, call);
        for (String part : before.keySet()) {
            boolean like = before.get(part).equals(after.get(part));
            if (like == Arrays.asList(changed).contains(part)) {
                wrong++;
                System.out.println("'" + sentence + "': " + told + (like ? " left " : " changed ") + part + ": "
                    + before.get(part) + " / " + after.get(part));
            }
        }
    }

    /** One number of a call: least to most are taken, what lies beyond is refused and changes nothing. */
    private static void range(String told, Setting setting, Sweep call, int least, int most, long refusal) {
        for (int v : new int[] {least, most}) {
            due(told + " with " + v + " is taken", call.on(made(setting), v) == refusal ? 0 : 1, 1);
        }
        refuses(told, setting, call, refusal, least - 1, most + 1, least - 256, most + 256, least - 65536,
            most + 65536, LEAST, LEAST + 1, GREATEST - 1, GREATEST);
    }

    private static void refuses(String told, Setting setting, Sweep call, long refusal, int... values) {
        for (int v : values) {
            keeps(told + " with " + v, setting, s -> call.on(s, v), refusal);
        }
    }

    // ---- Terms ----

    private static void answers() {
        says("BAD -1, STATE -2, FULL -3, NONE -4");
        due("BAD", SwellBodies.BAD, -1);
        due("STATE", SwellBodies.STATE, -2);
        due("FULL", SwellBodies.FULL, -3);
        due("NONE", SwellBodies.NONE, -4);
        due("corner(0, 0, 6)", made(NEW).corner(0, 0, 6), -1);
        due("body()", made(NEW).body(), -2);
        due("corner(0, 0, 0)", made(CROWDED).corner(0, 0, 0), -3);
        due("drop()", made(NEW).drop(), -4);
    }

    private static void pointsGiven() {
        says("POINTS have three whole numbers x, y, z, each -5 to 5 where they are given");
        range("corner(v, 0, 0)", MIXED, (s, v) -> s.corner(v, 0, 0), -5, 5, BAD);
        range("corner(0, v, 0)", MIXED, (s, v) -> s.corner(0, v, 0), -5, 5, BAD);
        range("corner(0, 0, v)", MIXED, (s, v) -> s.corner(0, 0, v), -5, 5, BAD);
        for (int x = -5; x <= 5; x++) {
            for (int y = -5; y <= 5; y++) {
                for (int z = -5; z <= 5; z++) {
                    SwellBodies s = new SwellBodies();
                    due("corner(" + x + ", " + y + ", " + z + ")", s.corner(x, y, z), 1);
                    s.body();
                    row("the corner", cornersOf(s, 0), x, y, z);
                }
            }
        }
    }

    private static void draftOf12() {
        says("THE DRAFT: 0 to 12 POINTS");
        for (int n = 0; n <= 12; n++) {
            due("all(1) after " + n + " points", made(drafted(n)).all(1), n);
            due("clear() after " + n + " points", made(drafted(n)).clear(), n);
            due("corner(0, 0, 0) after " + n + " points", made(drafted(n)).corner(0, 0, 0), n < 12 ? n + 1 : FULL);
        }
        keeps("a point thirteenth", drafted(12), s -> s.corner(1, 1, 1), FULL);
        keeps("a point drawn thirteenth", CROWDED, s -> s.draw(0, 0, 1), FULL);
    }

    private static void sheavesAndLanes() {
        says("SHEAVES 0 to 3 are rows of INTS (lane 0), LONGS (1)");
        for (Setting setting : List.of(NEW, MIXED, CROWDED)) {
            range("sheaf(k, 0, 3)", setting, (s, k) -> s.sheaf(k, 0, 3), 0, 3, BAD);
            range("lay(k, 0, 1)", setting, (s, k) -> s.lay(k, 0, 1), 0, 3, BAD);
            range("draw(k, 0, 0)", setting, (s, k) -> s.draw(k, 0, 0), 0, 3, BAD);
            range("sheaf(1, lane, 3)", setting, (s, lane) -> s.sheaf(1, lane, 3), 0, 1, BAD);
            range("draw(1, lane, 0)", setting, (s, lane) -> s.draw(1, lane, 0), 0, 1, BAD);
        }
        for (int k = 0; k < 4; k++) {
            for (int lane = 0; lane < 2; lane++) {
                SwellBodies s = new SwellBodies();
                due("sheaf(" + k + ", " + lane + ", 3)", s.sheaf(k, lane, 3), 1);
                due("draw of its own lane", s.draw(k, lane, 1), 1);
                due("draw of the other lane", s.draw(k, 1 - lane, 1), CAST_FAULT);
            }
        }
        says("SHEAVES are rows, or nothing (at first)");
        for (int k = 0; k < 4; k++) {
            int of = k;
            keeps("lay(" + k + ", 0, 1)", NEW, s -> s.lay(of, 0, 1), NULL_FAULT);
            keeps("draw(" + k + ", 0, 0)", NEW, s -> s.draw(of, 0, 0), NULL_FAULT);
            keeps("draw(" + k + ", 1, 0)", NEW, s -> s.draw(of, 1, 0), NULL_FAULT);
            for (int other = 0; other < 4; other++) {
                SwellBodies s = new SwellBodies();
                s.sheaf(k, 0, 3);
                due("lay(" + other + ", 0, 1), " + k + " is a row", s.lay(other, 0, 1), k == other ? 1 : NULL_FAULT);
            }
        }
    }

    private static void cellsOfSheaves() {
        says("SHEAVES have 0 to 36 CELLS");
        for (int n = 0; n <= 36; n++) {
            for (int k = 0; k < 4; k++) {
                SwellBodies s = new SwellBodies();
                due("sheaf(" + k + ", " + k % 2 + ", " + n + ")", s.sheaf(k, k % 2, n), 1);
                due("all(2)", s.all(2), k == 0 ? n : NONE);
                due("lay of cell -1 of " + n, s.lay(k, -1, 1), INDEX_FAULT);
                due("lay of cell 0 of " + n, s.lay(k, 0, 1), n > 0 ? 1 : INDEX_FAULT);
                due("lay of the last cell of " + n, s.lay(k, n - 1, 1), n > 0 ? 1 : INDEX_FAULT);
                due("lay of cell " + n + " of " + n, s.lay(k, n, 1), INDEX_FAULT);
            }
        }
    }

    private static void faults() {
        says("A FAULT: 1 NULL (nothing), 2 INDEX, 3 CAST (another lane), 4 SIZE (below 0)");
        keeps("lay into nothing", MIXED, s -> s.lay(3, 0, 1), -11);
        keeps("draw from nothing", MIXED, s -> s.draw(3, 0, 1), -11);
        keeps("lay behind the cells", MIXED, s -> s.lay(0, 10, 1), -12);
        keeps("draw behind the cells", MIXED, s -> s.draw(0, 0, 4), -12);
        keeps("draw ints as longs", MIXED, s -> s.draw(0, 1, 1), -13);
        keeps("draw longs as ints", MIXED, s -> s.draw(1, 0, 1), -13);
        keeps("a sheaf of -1 cells", MIXED, s -> s.sheaf(0, 0, -1), -14);
    }

    private static void eightBodies() {
        says("A BODY (8 are there at most)");
        eightBy("body()", s -> s.body(), "draft");
        eightBy("move(0, 1, 0, 0)", s -> s.move(0, 1, 0, 0));
        eightBy("turn(0, 1)", s -> s.turn(0, 1));
        eightBy("join(0, 0)", s -> s.join(0, 0));
        eightBy("slice(0, 0, 1)", s -> s.slice(0, 0, 1));
        due("all(0) with 8 bodies", made(rows(8)).all(0), 8);
        due("about(7, 1) with 8 bodies", made(rows(8)).about(7, 1), 1);
    }

    /** A call makes bodies up to the eighth, and changes the parts named besides. */
    private static void eightBy(String told, Call call, String... besides) {
        for (int n = 1; n < 8; n++) {
            List<String> changed = new ArrayList<>(List.of(besides));
            changed.add("bodies");
            changed.add("body " + n);
            changes(told + " with " + n + " bodies", rows(n), call, n, changed.toArray(new String[0]));
        }
        keeps(told + " with 8 bodies", rows(8), call, FULL);
        due(told + " with 8 bodies, one dropped", call.on(made(then(rows(8), s -> s.drop()))), 7);
    }

    /** Every call with a body's number, for each such number. */
    private static List<Asking> byBody() {
        return List.of(
            new Asking("about(b, 0)", BAD, (s, b) -> s.about(b, 0)),
            new Asking("about(b, 4)", BAD, (s, b) -> s.about(b, 4)),
            new Asking("cornerOf(b, 0, 0)", NO_PART, (s, b) -> s.cornerOf(b, 0, 0)),
            new Asking("has(b, 0, 0, 0, 1)", BAD, (s, b) -> s.has(b, 0, 0, 0, 1)),
            new Asking("count(b, 0)", BAD, (s, b) -> s.count(b, 0)),
            new Asking("count(b, 5)", BAD, (s, b) -> s.count(b, 5)),
            new Asking("inner(b, 2)", BAD, (s, b) -> s.inner(b, 2)),
            new Asking("number(b, 0)", NO_NUMBER, (s, b) -> s.number(b, 0)),
            new Asking("rule(b, 1)", -1L, (s, b) -> s.rule(b, 1)),
            new Asking("stairs(b, 0)", BAD, (s, b) -> s.stairs(b, 0)),
            new Asking("point(b, 1, 0, 0)", NO_POINT, (s, b) -> s.point(b, 1, 0, 0)),
            new Asking("rank(b, 1, 0, 0, 0)", BAD, (s, b) -> s.rank(b, 1, 0, 0, 0)),
            new Asking("move(b, 0, 0, 0)", BAD, (s, b) -> s.move(b, 0, 0, 0)),
            new Asking("turn(b, 0)", BAD, (s, b) -> s.turn(b, 0)),
            new Asking("join(b, 0)", BAD, (s, b) -> s.join(b, 0)),
            new Asking("join(0, b)", BAD, (s, b) -> s.join(0, b)),
            new Asking("slice(b, 0, 1)", BAD, (s, b) -> s.slice(b, 0, 1)),
            new Asking("within(b, 0)", BAD, (s, b) -> s.within(b, 0)),
            new Asking("within(0, b)", BAD, (s, b) -> s.within(0, b)),
            new Asking("same(b, 0)", BAD, (s, b) -> s.same(b, 0)),
            new Asking("same(0, b)", BAD, (s, b) -> s.same(0, b)),
            new Asking("most(b, 1, 1, 1, true)", NO_NUMBER, (s, b) -> s.most(b, 1, 1, 1, true)),
            new Asking("most(b, 1, 1, 1, false)", NO_NUMBER, (s, b) -> s.most(b, 1, 1, 1, false)));
    }

    private static void noSuchBody() {
        says("BAD (there is no such BODY)");
        List<Asking> asked = new ArrayList<>(byBody());
        asked.add(new Asking("side(b, 0, 0)", NO_PART, (s, b) -> s.side(b, 0, 0)));
        asked.add(new Asking("side(b, NONE, 0)", NO_PART, (s, b) -> s.side(b, NONE, 0)));
        asked.add(new Asking("on(b, 0)", BAD, (s, b) -> s.on(b, 0)));
        for (Asking asking : asked) {
            refuses(asking.told, NEW, asking.call, asking.refusal, 0, -1, 1, 7, 8, LEAST, GREATEST);
            refuses(asking.told, MIXED, asking.call, asking.refusal, -1, 4, 5, 7, 8, 256, 65536, LEAST, GREATEST);
            refuses(asking.told, then(MIXED, s -> s.drop()), asking.call, asking.refusal, 3);
            refuses(asking.told, CROWDED, asking.call, asking.refusal, -1, 8, 9, LEAST, GREATEST);
        }
        for (Asking asking : byBody()) {
            for (int b = 0; b < 8; b++) {
                due(asking.told + " with " + b + " is taken",
                    asking.call.on(made(CROWDED), b) == asking.refusal ? 0 : 1, 1);
            }
            due(asking.told + " with the last one is taken",
                asking.call.on(made(then(MIXED, s -> s.drop())), 2) == asking.refusal ? 0 : 1, 1);
        }
    }

    private static void askingChangesNothing() {
        says("Nothing but the state changes described");
        keeps("about(2, 1)", MIXED, s -> s.about(2, 1), 2);
        keeps("cornerOf(1, 1, 0)", MIXED, s -> s.cornerOf(1, 1, 0), 3);
        keeps("side(2, NONE, 3)", MIXED, s -> s.side(2, NONE, 3), 2);
        keeps("on(2, 0)", MIXED, s -> s.on(2, 0), 2);
        keeps("has(0, 1, 2, 3, 1)", MIXED, s -> s.has(0, 1, 2, 3, 1), 2);
        keeps("count(3, 5)", MIXED, s -> s.count(3, 5), 231);
        keeps("inner(3, 5)", MIXED, s -> s.inner(3, 5), 129);
        keeps("number(3, 3)", MIXED, s -> s.number(3, 3), 8);
        keeps("rule(3, -1000)", MIXED, s -> s.rule(3, -1000), -1331335999L);
        keeps("stairs(3, 3)", MIXED, s -> s.stairs(3, 3), 1);
        keeps("point(1, 5, 10, 0)", MIXED, s -> s.point(1, 5, 10, 0), 15);
        keeps("rank(1, 5, 15, 5, 5)", MIXED, s -> s.rank(1, 5, 15, 5, 5), 10);
        keeps("rank(1, 5, 15, 5, 6)", MIXED, s -> s.rank(1, 5, 15, 5, 6), NONE);
        keeps("within(0, 3)", MIXED, s -> s.within(0, 3), 0);
        keeps("same(2, 2)", MIXED, s -> s.same(2, 2), 2);
        keeps("most(1, 1, 1, 1, true)", MIXED, s -> s.most(1, 1, 1, 1, true), 5);
        keeps("all(0)", MIXED, s -> s.all(0), 4);
        keeps("all(1)", MIXED, s -> s.all(1), 2);
        keeps("all(2)", MIXED, s -> s.all(2), 10);
    }

    // ---- Promises 1, 2 and 6: a new object, corner, clear ----

    private static void newObject() {
        says("1: No BODY, an empty DRAFT, SHEAVES of nothing");
        // Another object, full of all, must not be seen in a new one.
        made(CROWDED);
        SwellBodies s = new SwellBodies();
        due("all(0)", s.all(0), 0);
        due("all(1)", s.all(1), 0);
        due("all(2)", s.all(2), NONE);
        keeps("drop()", NEW, t -> t.drop(), NONE);
        keeps("body()", NEW, t -> t.body(), STATE);
        keeps("clear()", NEW, t -> t.clear(), 0);
        keeps("lay(0, 0, 0)", NEW, t -> t.lay(0, 0, 0), NULL_FAULT);
    }

    private static void corner() {
        says("2: A POINT comes into THE DRAFT: how many there are");
        changes("corner(5, 5, 5)", MIXED, s -> s.corner(5, 5, 5), 3, "draft");
        changes("corner(1, 1, 1), there already", MIXED, s -> s.corner(1, 1, 1), 3, "draft");
        changes("corner, the twelfth", drafted(11), s -> s.corner(-5, -5, -5), 12, "draft");
        says("2: BAD; FULL: the first that fits");
        keeps("corner(0, 0, 0)", CROWDED, s -> s.corner(0, 0, 0), FULL);
        range("corner(v, 0, 0) with 12", CROWDED, (s, v) -> s.corner(v, 0, 0), -5, 5, BAD);
        range("corner(0, v, 0) with 12", CROWDED, (s, v) -> s.corner(0, v, 0), -5, 5, BAD);
        range("corner(0, 0, v) with 12", CROWDED, (s, v) -> s.corner(0, 0, v), -5, 5, BAD);
        says("2: corner after a full DRAFT was emptied");
        due("corner after clear()", made(then(CROWDED, s -> s.clear())).corner(0, 0, 0), 1);
        due("corner after body()", made(then(drafted(12), s -> s.body())).corner(0, 0, 0), 1);
    }

    private static void clear() {
        says("6: THE DRAFT is emptied: how many there were");
        keeps("clear() of none", s -> make(s, POINT), s -> s.clear(), 0);
        due("clear() twice", made(then(MIXED, s -> s.clear())).clear(), 0);
        changes("clear() of two", MIXED, s -> s.clear(), 2, "draft");
        changes("clear() of twelve", CROWDED, s -> s.clear(), 12, "draft");
        due("body() after it", made(then(MIXED, s -> s.clear())).body(), STATE);
        SwellBodies s = made(then(CROWDED, t -> t.clear()));
        s.drop();
        s.corner(4, 4, 4);
        s.body();
        row("the old points are gone", cornersOf(s, 7), 4, 4, 4);
        due("how many it is made of", s.about(7, 4), 1);
    }

    // ---- Promises 3 to 5: sheaf, lay, draw ----

    private static void sheaf() {
        says("3: BAD: also n above 36");
        refuses("sheaf(1, 0, n)", MIXED, (s, n) -> s.sheaf(1, 0, n), BAD, 37, 38, 292, 65572, GREATEST);
        refuses("sheaf(1, 1, n)", MIXED, (s, n) -> s.sheaf(1, 1, n), BAD, 37, 38, 292, 65572, GREATEST);
        says("3: -10 - 4: n is below 0");
        refuses("sheaf(1, 0, n)", MIXED, (s, n) -> s.sheaf(1, 0, n), SIZE_FAULT, -1, -2, -36, -256, LEAST + 1, LEAST);
        refuses("sheaf(3, 1, n)", NEW, (s, n) -> s.sheaf(3, 1, n), SIZE_FAULT, -1, LEAST);
        says("3: the first that fits: BAD before the FAULT");
        refuses("sheaf(k, 0, -1)", MIXED, (s, k) -> s.sheaf(k, 0, -1), BAD, -1, 4, LEAST, GREATEST);
        refuses("sheaf(1, lane, -1)", MIXED, (s, lane) -> s.sheaf(1, lane, -1), BAD, -1, 2, LEAST, GREATEST);
        keeps("sheaf(4, 2, LEAST)", MIXED, s -> s.sheaf(4, 2, LEAST), BAD);
    }

    private static void sheafIsNew() {
        says("3: A SHEAF is a new row of CELLS 0: 1");
        changes("sheaf(0, 0, 10)", MIXED, s -> s.sheaf(0, 0, 10), 1, "sheaf 0");
        changes("sheaf(1, 0, 0)", MIXED, s -> s.sheaf(1, 0, 0), 1, "sheaf 1");
        changes("sheaf(2, 0, 36)", MIXED, s -> s.sheaf(2, 0, 36), 1, "sheaf 2");
        changes("sheaf(2, 1, 0)", MIXED, s -> s.sheaf(2, 1, 0), 1, "sheaf 2");
        changes("sheaf(3, 1, 36)", MIXED, s -> s.sheaf(3, 1, 36), 1, "sheaf 3");
        for (int lane = 0; lane < 2; lane++) {
            for (int next = 0; next < 2; next++) {
                SwellBodies s = new SwellBodies();
                lays(s, 3, lane, 36, TWELVE);
                s.sheaf(3, next, 36);
                due("draw(3, lane, 12)", s.draw(3, next, 12), 12);
                s.body();
                row("all cells are 0", cornersOf(s, 0), 0, 0, 0);
                lays(s, 3, lane, 36, TWELVE);
                s.sheaf(3, next, 0);
                s.sheaf(3, lane, 36);
                s.draw(3, lane, 12);
                s.body();
                row("all cells are 0, after a row of none", cornersOf(s, 1), 0, 0, 0);
            }
        }
    }

    private static void lay() {
        says("4: CELL i of a SHEAF becomes v: 1");
        for (int i = 0; i < 9; i++) {
            int at = i;
            changes("lay(0, " + i + ", -4)", MIXED, s -> s.lay(0, at, -4), 1, "sheaf 0");
        }
        changes("lay(1, 35, 3)", MIXED, s -> s.lay(1, 35, 3), 1, "sheaf 1");
        for (int i = 0; i < 36; i++) {
            for (int lane = 0; lane < 2; lane++) {
                SwellBodies s = new SwellBodies();
                s.sheaf(2, lane, 36);
                due("lay(2, " + i + ", 4)", s.lay(2, i, 4), 1);
                s.draw(2, lane, 12);
                s.body();
                long[] want = new long[6];
                want[3 + i % 3] = 4;
                row("the cell laid", cornersOf(s, 0), want);
            }
        }
        says("4: -10 less the FAULT: INDEX");
        refuses("lay(0, i, 1)", MIXED, (s, i) -> s.lay(0, i, 1), INDEX_FAULT,
            -1, 10, 11, 35, 36, 37, 256, 65536, LEAST, GREATEST);
        refuses("lay(1, i, 1)", MIXED, (s, i) -> s.lay(1, i, 1), INDEX_FAULT, -1, 36, 37, 256, LEAST, GREATEST);
        refuses("lay(2, i, 1)", MIXED, (s, i) -> s.lay(2, i, 1), INDEX_FAULT, -1, 0, 1, LEAST, GREATEST);
        says("4: BAD: k, before NULL, before INDEX");
        refuses("lay(3, i, 1)", MIXED, (s, i) -> s.lay(3, i, 1), NULL_FAULT, -1, 0, 35, 36, LEAST, GREATEST);
        refuses("lay(k, -1, 1)", MIXED, (s, k) -> s.lay(k, -1, 1), BAD, -1, 4, LEAST, GREATEST);
        refuses("lay(k, -1, 1)", NEW, (s, k) -> s.lay(k, -1, 1), BAD, -1, 4, LEAST, GREATEST);
    }

    private static void layLowestBits() {
        says("4: CELL i becomes v (of INTS its lowest bits)");
        long high = 1L << 32;
        long[] laid = {
            5, -5, 6, -6, high + 5, high - 5, high + 6, high - 6, 5 - high, -5 - high, 6 - high, high, -high,
            1L << 31, -(1L << 31), (1L << 31) - 1, 256, 65536 + 1, 1L << 40, (1L << 62) + 3,
            Long.MIN_VALUE, Long.MIN_VALUE + 5, Long.MIN_VALUE + 6,
            Long.MAX_VALUE, Long.MAX_VALUE - 4, Long.MAX_VALUE - 5};
        for (long v : laid) {
            for (int cell = 0; cell < 36; cell += 7) {
                layAndDraw(0, cell, v, (int) v);
                layAndDraw(1, cell, v, v);
            }
        }
    }

    private static void layAndDraw(int lane, int cell, long v, long kept) {
        String told = "v " + v + " in cell " + cell + " of lane " + lane;
        SwellBodies s = new SwellBodies();
        s.sheaf(1, lane, 36);
        due("lay, " + told, s.lay(1, cell, v), 1);
        boolean told5 = kept >= -5 && kept <= 5;
        due("draw up to it, " + told, s.draw(1, lane, cell / 3), cell / 3);
        s.clear();
        due("draw, " + told, s.draw(1, lane, 12), told5 ? 12 : BAD);
        due("all(1), " + told, s.all(1), told5 ? 12 : 0);
        if (told5) {
            s.body();
            int[] way = {0, 0, 0};
            way[cell % 3] = 1;
            due("least, " + told, s.most(0, way[0], way[1], way[2], false), Math.min(kept, 0));
            due("most, " + told, s.most(0, way[0], way[1], way[2], true), Math.max(kept, 0));
        }
    }

    private static void drawRefused() {
        says("5: BAD: k, lane, n below 0");
        for (Setting setting : List.of(NEW, MIXED, CROWDED)) {
            refuses("draw(k, 0, 1)", setting, (s, k) -> s.draw(k, 0, 1), BAD, -1, 4, LEAST, GREATEST);
            refuses("draw(0, lane, 1)", setting, (s, lane) -> s.draw(0, lane, 1), BAD, -1, 2, LEAST, GREATEST);
            refuses("draw(0, 0, n)", setting, (s, n) -> s.draw(0, 0, n), BAD, -1, -2, -256, LEAST + 1, LEAST);
        }
        says("5: BAD before NULL and CAST");
        refuses("draw(3, 0, n)", MIXED, (s, n) -> s.draw(3, 0, n), BAD, -1, LEAST);
        refuses("draw(3, lane, 0)", MIXED, (s, lane) -> s.draw(3, lane, 0), BAD, -1, 2);
        refuses("draw(0, 1, n)", MIXED, (s, n) -> s.draw(0, 1, n), BAD, -1, LEAST);
        says("5: NULL, CAST, then POINT by POINT");
        refuses("draw(3, 0, n)", MIXED, (s, n) -> s.draw(3, 0, n), NULL_FAULT, 0, 1, 12, 13, GREATEST);
        refuses("draw(3, 1, n)", MIXED, (s, n) -> s.draw(3, 1, n), NULL_FAULT, 0, 1, 12, 13, GREATEST);
        refuses("draw(0, 1, n)", MIXED, (s, n) -> s.draw(0, 1, n), CAST_FAULT, 0, 1, 4, 12, 13, GREATEST);
        refuses("draw(2, 1, n)", MIXED, (s, n) -> s.draw(2, 1, n), CAST_FAULT, 0, 1, GREATEST);
        refuses("draw(1, 0, n)", MIXED, (s, n) -> s.draw(1, 0, n), CAST_FAULT, 0, 1, 13, GREATEST);
        refuses("draw(0, 1, n) with 12", CROWDED, (s, n) -> s.draw(0, 1, n), CAST_FAULT, 0, 1, GREATEST);
        keeps("draw(0, 1, 1) of a bad number", then(MIXED, s -> s.lay(0, 0, 6)), s -> s.draw(0, 1, 1), CAST_FAULT);
    }

    private static void drawIndex() {
        says("5: n POINTS (three CELLS each, from CELL 0 on): INDEX");
        for (int cells = 0; cells <= 36; cells++) {
            for (int lane = 0; lane < 2; lane++) {
                int as = lane;
                int size = cells;
                Setting setting = s -> s.sheaf(0, as, size);
                String told = "draw of " + cells + " cells, points: ";
                for (int n = 0; n <= 13; n++) {
                    due(told + n, made(setting).draw(0, lane, n), n <= cells / 3 ? n : INDEX_FAULT);
                }
                // Three times each of these wraps round to a small number.
                for (int n : new int[] {715827882, 715827883, 1431655765, 1431655766, 1431655767, GREATEST}) {
                    due(told + n, made(setting).draw(0, lane, n), INDEX_FAULT);
                }
            }
        }
        refuses("draw(0, 0, n)", MIXED, (s, n) -> s.draw(0, 0, n), INDEX_FAULT, 4, 5, 13, 1431655766, GREATEST);
        refuses("draw(2, 0, n)", MIXED, (s, n) -> s.draw(2, 0, n), INDEX_FAULT, 1, 12, 1431655766, GREATEST);
        says("5: come into THE DRAFT: how many there are");
        keeps("draw(0, 0, 0)", MIXED, s -> s.draw(0, 0, 0), 2);
        keeps("draw(2, 0, 0)", MIXED, s -> s.draw(2, 0, 0), 2);
        changes("draw(0, 0, 1)", MIXED, s -> s.draw(0, 0, 1), 3, "draft");
        changes("draw(1, 1, 10)", MIXED, s -> s.draw(1, 1, 10), 12, "draft");
        SwellBodies s = new SwellBodies();
        lays(s, 1, 1, 36, TWELVE);
        due("draw(1, 1, 12)", s.draw(1, 1, 12), 12);
        s.body();
        row("the points drawn", cornersOf(s, 0), TWELVE_IN_ORDER);
        due("draw(1, 1, 2)", s.draw(1, 1, 2), 2);
        s.body();
        row("the first two", cornersOf(s, 1), 5, -1, 0, 5, 1, 0);
    }

    private static void drawNumbers() {
        says("5: BAD: a number that is not -5 to 5");
        long[] laid = {-5, 5, -6, 6, 1L << 31, -(1L << 31), (1L << 32) + 1, Long.MIN_VALUE, Long.MAX_VALUE};
        for (int cell = 0; cell < 36; cell++) {
            for (long v : laid) {
                SwellBodies s = new SwellBodies();
                s.sheaf(3, 1, 36);
                s.lay(3, cell, v);
                boolean bad = v < -5 || v > 5;
                due("draw before the cell " + cell, s.draw(3, 1, cell / 3), cell / 3);
                s.clear();
                due("draw with " + v + " in cell " + cell, s.draw(3, 1, cell / 3 + 1), bad ? BAD : cell / 3 + 1);
                due("all(1)", s.all(1), bad ? 0 : cell / 3 + 1);
            }
        }
        says("5: then none came");
        refuses("draw(1, 1, 10)", MIXED, (s, v) -> badCellThenDraw(s, v), BAD, 0, 1, 2, 14, 27, 28, 29);
        due("a bad number behind the points drawn", badCellThenDraw(made(MIXED), 30), 12);
    }

    private static long badCellThenDraw(SwellBodies s, int cell) {
        long good = TWELVE[cell];
        s.lay(1, cell, 6);
        long answer = s.draw(1, 1, 10);
        // Laid back, so that only the draft could tell what the draw left.
        s.lay(1, cell, good);
        return answer;
    }

    private static void drawFull() {
        says("5: FULL");
        for (int had = 0; had <= 12; had++) {
            for (int n = 0; n <= 12; n++) {
                Setting setting = then(drafted(had), s -> s.sheaf(2, 0, 36));
                SwellBodies s = made(setting);
                due("draw(2, 0, " + n + ") to " + had, s.draw(2, 0, n), had + n <= 12 ? had + n : FULL);
                due("all(1)", s.all(1), had + n <= 12 ? had + n : had);
            }
        }
        keeps("draw(1, 1, 11) to two", MIXED, s -> s.draw(1, 1, 11), FULL);
        keeps("draw(1, 1, GREATEST) to two", MIXED, s -> s.draw(1, 1, GREATEST), FULL);
        keeps("draw(1, 1, 1) to twelve", CROWDED, s -> s.draw(1, 1, 1), FULL);
        keeps("draw(1, 1, 0) to twelve", CROWDED, s -> s.draw(1, 1, 0), 12);
    }

    private static void drawFirstMet() {
        says("5: POINT by POINT INDEX; BAD; FULL: the first met");
        for (int cells = 0; cells <= 15; cells++) {
            for (int bad = 0; bad <= 15; bad += 2) {
                for (int room = 0; room <= 5; room++) {
                    for (int n = 0; n <= 6; n++) {
                        firstMet(cells, bad, room, n);
                    }
                }
            }
        }
    }

    private static void firstMet(int cells, int bad, int room, int n) {
        SwellBodies s = made(drafted(12 - room));
        s.sheaf(0, 0, cells);
        s.lay(0, bad, -6);
        long want = 12 - room + n;
        for (int i = n - 1; i >= 0; i--) {
            want = i >= room ? FULL : want;
            want = bad / 3 == i && bad < cells ? BAD : want;
            want = 3 * i + 2 >= cells ? INDEX_FAULT : want;
        }
        String told = n + " points of " + cells + " cells, cell " + bad + " bad, room for " + room;
        due("draw of " + told, s.draw(0, 0, n), want);
        due("all(1) after " + told, s.all(1), want < 0 ? 12 - room : want);
    }

    // ---- Promises 7 to 12: body, drop, about, cornerOf, side, on ----

    private static void body() {
        says("7: THE DRAFT (empty then) becomes a BODY: its number");
        changes("body() of one", s -> s.corner(1, 2, 3), s -> s.body(), 0, "bodies", "body 0", "draft");
        changes("body() of twelve", s -> give(s, TWELVE), s -> s.body(), 0, "bodies", "body 0", "draft");
        changes("body() beside others", MIXED, s -> s.body(), 4, "bodies", "body 4", "draft");
        due("all(1) after it", made(then(MIXED, s -> s.body())).all(1), 0);
        says("7: STATE: it is empty; FULL: the first that fits");
        keeps("body() of none", then(MIXED, s -> s.clear()), s -> s.body(), STATE);
        keeps("body() of none with 8", then(CROWDED, s -> s.clear()), s -> s.body(), STATE);
        keeps("body() of one with 8", rows(8), s -> s.body(), FULL);
        keeps("body() of twelve with 8", CROWDED, s -> s.body(), FULL);
        SwellBodies s = made(CROWDED);
        s.body();
        s.drop();
        due("body(), once there is a place", s.body(), 7);
        row("of the points kept", cornersOf(s, 7), TWELVE_IN_ORDER);
    }

    private static void drop() {
        says("8: The latest BODY goes: its number");
        SwellBodies s = made(CROWDED);
        for (int b = 7; b >= 0; b--) {
            due("drop()", s.drop(), b);
            due("all(0)", s.all(0), b);
            due("about(" + b + ", 1)", s.about(b, 1), BAD);
            due("about(" + (b - 1) + ", 1) is taken", s.about(b - 1, 1) == BAD ? 0 : 1, b > 0 ? 1 : 0);
        }
        changes("drop() of four", MIXED, t -> t.drop(), 3, "bodies", "body 3");
        changes("drop() of eight", CROWDED, t -> t.drop(), 7, "bodies", "body 7");
        changes("drop() of one", t -> make(t, POINT), t -> t.drop(), 0, "bodies", "body 0");
        says("8: NONE");
        due("drop() of none", s.drop(), NONE);
        keeps("drop() of none", drafted(3), t -> t.drop(), NONE);
        s.clear();
        due("a body after the last was dropped", make(s, POINT), 0);
        row("it is the new one", cornersOf(s, 0), 1, 2, 3);
    }

    private static void about() {
        says("9: 0 its KIND, 1 what it FILLS, 2 CORNERS, 3 SIDES, 4 how many POINTS. BAD");
        SwellBodies s = made(MIXED);
        row("about a point", aboutOf(s, 0), 3, 0, 1, 0, 1);
        row("about a row", aboutOf(s, 1), 2, 1, 2, 2, 2);
        row("about a triangle", aboutOf(s, 2), 2, 2, 3, 3, 3);
        row("about an octahedron", aboutOf(s, 3), 0, 3, 6, 8, 6);
        for (int b = 0; b < 4; b++) {
            int of = b;
            range("about(" + b + ", what)", MIXED, (t, what) -> t.about(of, what), 0, 4, BAD);
        }
    }

    private static void madeOf() {
        says("9: 4 how many POINTS it was made of (of DRAFT, those given)");
        for (int n = 1; n <= 12; n++) {
            due(n + " points", made(then(drafted(n), s -> s.body())).about(0, 4), n);
        }
        SwellBodies s = new SwellBodies();
        for (int i = 0; i < 12; i++) {
            s.corner(1, 1, 1);
        }
        s.body();
        row("one point twelve times", aboutOf(s, 0), 3, 0, 1, 0, 12);
        lays(s, 0, 0, 36, TWELVE);
        s.corner(0, 0, 0);
        s.draw(0, 0, 11);
        s.body();
        due("points drawn and given", s.about(1, 4), 12);
        says("9: 4 (of another BODY, two, their CORNERS)");
        s.move(0, 1, 1, 1);
        due("moved, of twelve points with one corner", s.about(2, 4), 1);
        s.turn(0, 0);
        due("turned, of twelve points with one corner", s.about(3, 4), 1);
        s.join(0, 3);
        row("joined with itself turned", aboutOf(s, 4), 3, 0, 1, 0, 2);
        s.join(1, 0);
        due("joined, corners of both", s.about(5, 4), s.about(1, 2) + 1);
        s.join(5, 5);
        due("joined, corners twice", s.about(6, 4), 2 * s.about(5, 2));
        says("9: 4 (of slice() its points)");
        SwellBodies t = with(box(-5, 5, -5, 5, -5, 5));
        for (int way = 0; way < 3; way++) {
            t.slice(0, way, 5);
            row("the widest slice in " + WAYS[way], aboutOf(t, way + 1), 3, 2, 4, 4, 121);
        }
        make(t, POINT);
        t.slice(4, 0, 1);
        row("the narrowest slice", aboutOf(t, 5), 3, 0, 1, 0, 1);
    }

    private static void cornerOf() {
        says("10: x, y, z (what 0, 1, 2) of CORNER i. 1000: there is none such");
        int[] corners = {1, 2, 3, 6};
        for (int b = 0; b < 4; b++) {
            int of = b;
            int last = corners[b] - 1;
            range("cornerOf(" + b + ", i, 0)", MIXED, (s, i) -> s.cornerOf(of, i, 0), 0, last, NO_PART);
            range("cornerOf(" + b + ", last, what)", MIXED, (s, what) -> s.cornerOf(of, last, what), 0, 2, NO_PART);
            refuses("cornerOf(" + b + ", i, 1)", MIXED, (s, i) -> s.cornerOf(of, i, 1), NO_PART, NONE, -2, -3);
        }
        range("cornerOf(5, i, 2)", CROWDED, (s, i) -> s.cornerOf(5, i, 2), 0, 11, NO_PART);
        row("corners of a row", cornersOf(made(MIXED), 1), -1, -1, -1, 3, 1, 1);
    }

    private static void side() {
        says("11: a, b, c, e (what 0 to 3) of SIDE i. 1000: there is none such");
        int[] sides = {0, 2, 3, 8};
        for (int b = 1; b < 4; b++) {
            int of = b;
            int last = sides[b] - 1;
            range("side(" + b + ", i, 3)", MIXED, (s, i) -> s.side(of, i, 3), 0, last, NO_PART);
            range("side(" + b + ", last, what)", MIXED, (s, what) -> s.side(of, last, what), 0, 3, NO_PART);
            refuses("side(" + b + ", i, 0)", MIXED, (s, i) -> s.side(of, i, 0), NO_PART,
                -2, -3, -5, -6, sides[b] + 1);
        }
        for (int what = 0; what < 4; what++) {
            int part = what;
            refuses("side(0, i, " + what + ")", MIXED, (s, i) -> s.side(0, i, part), NO_PART,
                -1, 0, 1, LEAST, GREATEST);
        }
    }

    private static void bond() {
        says("11: i NONE: of N, if it FILLS 2 (e: of the BOND). 1000: there is none such");
        row("bond of a triangle", bondOf(made(MIXED), 2), 1, 1, 1, 2);
        range("side(2, NONE, what)", MIXED, (s, what) -> s.side(2, NONE, what), 0, 3, NO_PART);
        for (int b : new int[] {0, 1, 3}) {
            row("no bond of body " + b, bondOf(made(MIXED), b), NO_PART, NO_PART, NO_PART, NO_PART);
            int of = b;
            refuses("side(" + b + ", NONE, what)", MIXED, (s, what) -> s.side(of, NONE, what), NO_PART, -1, 0, 3, 4);
        }
        says("N (whole, without a common divisor; its first number that is not 0 above 0); N x = e");
        long[][] planes = {
            {1, 0, 0, 4}, {1, 0, 0, -4}, {0, 1, 0, 3}, {0, 1, 0, -3}, {0, 0, 1, 5}, {0, 0, 1, -5}, {0, 1, -1, 0},
            {0, 1, 1, 0}, {0, 2, -3, 1}, {1, 0, -1, 0}, {1, 0, 1, 0}, {1, -1, 0, 2}, {1, 1, 0, -2}, {1, 1, 1, 2},
            {1, -1, -1, 0}, {6, -10, 15, 30}, {6, -10, 15, -30}, {4, -6, 15, 0}, {12, 15, 20, 60}};
        for (long[] plane : planes) {
            trianglesOf(plane);
        }
    }

    /** N is the same whichever three points of a plane are taken; some of them are. */
    private static void trianglesOf(long[] plane) {
        List<int[]> points = new ArrayList<>();
        for (int i = 0; i < 1331; i++) {
            int[] p = {i / 121 - 5, i / 11 % 11 - 5, i % 11 - 5};
            if (plane[0] * p[0] + plane[1] * p[1] + plane[2] * p[2] == plane[3]) {
                points.add(p);
            }
        }
        int last = points.size() - 1;
        int found = 0;
        for (int i = 0; i <= 8; i++) {
            for (int j = i + 1; j <= 8; j++) {
                for (int k = j + 1; k <= 8; k++) {
                    int[] p = points.get(i * last / 8);
                    int[] q = points.get(j * last / 8);
                    int[] r = points.get(k * last / 8);
                    if (!inRow(p, q, r)) {
                        found++;
                        row("bond of " + Arrays.toString(p) + Arrays.toString(q) + Arrays.toString(r),
                            bondOf(with(p[0], p[1], p[2], q[0], q[1], q[2], r[0], r[1], r[2]), 0), plane);
                    }
                }
            }
        }
        due("triangles of " + Arrays.toString(plane) + " are there", found > 0 ? 1 : 0, 1);
    }

    private static boolean inRow(int[] p, int[] q, int[] r) {
        boolean all = true;
        for (int i = 0; i < 3; i++) {
            int j = (i + 1) % 3;
            all &= (q[i] - p[i]) * (r[j] - p[j]) == (q[j] - p[j]) * (r[i] - p[i]);
        }
        return all;
    }

    private static void on() {
        says("12: How many CORNERS lie on SIDE i. BAD");
        int[] sides = {0, 2, 3, 8};
        for (int b = 1; b < 4; b++) {
            int of = b;
            range("on(" + b + ", i)", MIXED, (s, i) -> s.on(of, i), 0, sides[b] - 1, BAD);
            refuses("on(" + b + ", i)", MIXED, (s, i) -> s.on(of, i), BAD, NONE, -2, -3, -5);
            for (int i = 0; i < sides[b]; i++) {
                due("on(" + b + ", " + i + ")", made(MIXED).on(b, i), b);
            }
        }
        refuses("on(0, i)", MIXED, (s, i) -> s.on(0, i), BAD, NONE, -1, 0, 1, LEAST, GREATEST);
        SwellBodies s = new SwellBodies();
        give(s, box(0, 2, 0, 2, 0, 2));
        make(s, 1, 1, 2, 1, 0, 0);
        for (int i = 0; i < 6; i++) {
            due("on side " + i + " of a cube, whose points on the skin are none", s.on(0, i), 4);
        }
    }

    // ---- bodies: corners, what is filled, sides, kinds ----

    private static void cornersAre(String told, int[] parts, long... want) {
        row(told, cornersOf(with(parts), 0), want);
        int[] back = new int[parts.length];
        for (int i = 0; i < parts.length; i++) {
            back[i] = parts[parts.length - 3 - i / 3 * 3 + i % 3];
        }
        row(told + ", given the other way round", cornersOf(with(back), 0), want);
    }

    private static void corners() {
        says("Its CORNERS are those that do not lie between the others");
        cornersAre("a point twice", new int[] {1, 2, 3, 1, 2, 3}, 1, 2, 3);
        cornersAre("a row with a point on it", new int[] {0, 0, 0, 1, 1, 1, 5, 5, 5}, 0, 0, 0, 5, 5, 5);
        cornersAre("a row with its ends twice", new int[] {0, 0, 0, 0, 0, 0, 0, 0, 3, 0, 0, 3}, 0, 0, 0, 0, 0, 3);
        cornersAre("a triangle with points on its edges",
            new int[] {0, 0, 0, 3, 0, 0, 0, 3, 0, 1, 0, 0, 0, 2, 0, 2, 1, 0}, 0, 0, 0, 0, 3, 0, 3, 0, 0);
        cornersAre("a triangle with its middle", new int[] {0, 0, 0, 3, 0, 0, 0, 3, 0, 1, 1, 0},
            0, 0, 0, 0, 3, 0, 3, 0, 0);
        cornersAre("a slant triangle with its middle", new int[] {3, 0, 0, 0, 3, 0, 0, 0, 3, 1, 1, 1},
            0, 0, 3, 0, 3, 0, 3, 0, 0);
        cornersAre("four in a plane", new int[] {0, 0, 0, 3, 0, 0, 0, 3, 0, 2, 2, 0},
            0, 0, 0, 0, 3, 0, 2, 2, 0, 3, 0, 0);
        int[] wedge = {0, 0, 0, 4, 0, 0, 0, 4, 0, 0, 0, 4};
        long[] wedgeInOrder = {0, 0, 0, 0, 0, 4, 0, 4, 0, 4, 0, 0};
        int[][] between = {{1, 0, 0}, {0, 3, 1}, {3, 1, 0}, {1, 1, 0}, {1, 2, 1}, {1, 1, 1}, {4, 0, 0}};
        for (int[] p : between) {
            int[] more = Arrays.copyOf(wedge, 15);
            System.arraycopy(p, 0, more, 12, 3);
            cornersAre("a wedge with " + Arrays.toString(p), more, wedgeInOrder);
        }
        cornersAre("a wedge with a point just outside", new int[] {0, 0, 0, 4, 0, 0, 0, 4, 0, 0, 0, 4, 2, 2, 1},
            0, 0, 0, 0, 0, 4, 0, 4, 0, 2, 2, 1, 4, 0, 0);
        threePoints();
        says("CORNERS are in order: by x, then y, then z, the least first");
        cornersAre("twelve of them", TWELVE, TWELVE_IN_ORDER);
        cornersAre("by x", new int[] {5, -5, -5, -5, 5, 5}, -5, 5, 5, 5, -5, -5);
        cornersAre("then by y", new int[] {2, 5, -5, 2, -5, 5}, 2, -5, 5, 2, 5, -5);
        cornersAre("then by z", new int[] {2, 3, 5, 2, 3, -5}, 2, 3, -5, 2, 3, 5);
    }

    /** Any three points near nought: all are corners, but for the middle one of a row. */
    private static void threePoints() {
        for (int i = 0; i < 27 * 27 * 27; i++) {
            int[] p = near(i % 27);
            int[] q = near(i / 27 % 27);
            int[] r = near(i / 729);
            if (i % 27 < i / 27 % 27 && i / 27 % 27 < i / 729) {
                String told = "of " + Arrays.toString(p) + Arrays.toString(q) + Arrays.toString(r);
                boolean flat = !inRow(p, q, r);
                SwellBodies s = with(r[0], r[1], r[2], p[0], p[1], p[2], q[0], q[1], q[2]);
                due("fills " + told, s.about(0, 1), flat ? 2 : 1);
                if (flat) {
                    row("corners " + told, cornersOf(s, 0), p[0], p[1], p[2], q[0], q[1], q[2], r[0], r[1], r[2]);
                } else {
                    row("corners " + told, cornersOf(s, 0), p[0], p[1], p[2], r[0], r[1], r[2]);
                }
            }
        }
    }

    /** The points with numbers -1 to 1, in order. */
    private static int[] near(int i) {
        return new int[] {i / 9 - 1, i / 3 % 3 - 1, i % 3 - 1};
    }

    private static void fillings() {
        says("It FILLS 0 to 3 directions");
        for (int b = 0; b < 4; b++) {
            due("fills of body " + b, made(MIXED).about(b, 1), b);
        }
        due("one point twice", with(5, -5, 5, 5, -5, 5).about(0, 1), 0);
        due("points in a row", with(-4, 4, -2, -2, 2, -1, 0, 0, 0, 2, -2, 1, 4, -4, 2, 0, 0, 0).about(0, 1), 1);
        due("a row twice and a point beside it", with(0, 0, 0, 2, 2, 2, 0, 0, 0, 2, 2, 2, 1, 1, 2).about(0, 1), 2);
        due("points in a plane", with(0, 0, 0, 1, -1, 0, 2, 0, -2, 0, 3, -3, -4, 2, 2, 5, -5, 0).about(0, 1), 2);
        due("three in a row, one beside, one beside the plane",
            with(0, 0, 0, 1, 0, 0, 2, 0, 0, 1, 5, 0, 1, 2, 0, 3, 3, 1).about(0, 1), 3);
        due("two rows past one another", with(-5, 0, 0, 5, 0, 0, 0, -5, 1, 0, 5, 1).about(0, 1), 3);
        due("two rows that cross", with(-5, 0, 1, 5, 0, 1, 0, -5, 1, 0, 5, 1).about(0, 1), 2);
    }

    private static void sidesFilling3() {
        says("Filling 3: the planes through three CORNERS or more, with all others on one side");
        row("sides of a cube, each once", sidesOf(with(box(0, 2, 0, 2, 0, 2)), 0),
            -1, 0, 0, 0, 0, -1, 0, 0, 0, 0, -1, 0, 0, 0, 1, 2, 0, 1, 0, 2, 1, 0, 0, 2);
        says("Filling 3: whole a, b, c that have no common divisor but 1");
        row("sides of a long wedge", sidesOf(with(0, 0, 0, 4, 0, 0, 0, 2, 0, 0, 0, 2), 0),
            -1, 0, 0, 0, 0, -1, 0, 0, 0, 0, -1, 0, 1, 2, 2, 4);
        row("sides with great numbers", sidesOf(with(0, 0, 0, 5, 0, 0, 0, 4, 0, 0, 0, 3), 0),
            -1, 0, 0, 0, 0, -1, 0, 0, 0, 0, -1, 0, 12, 15, 20, 60);
        says("SIDES in order: by a, then b, then c, the least first");
        row("sides of an octahedron", sidesOf(made(MIXED), 3),
            -1, -1, -1, 1, -1, -1, 1, 1, -1, 1, -1, 1, -1, 1, 1, 1,
            1, -1, -1, 1, 1, -1, 1, 1, 1, 1, -1, 1, 1, 1, 1, 1);
    }

    private static void sidesFilling2() {
        says("Filling 2: for each edge the step square to it and to N, away from the others");
        row("a square across z", sidesOf(with(0, 0, 3, 2, 0, 3, 0, 2, 3, 2, 2, 3, 1, 0, 3), 0),
            -1, 0, 0, 0, 0, -1, 0, 0, 0, 1, 0, 2, 1, 0, 0, 2);
        row("a square across x", sidesOf(with(-5, 1, 1, -5, 4, 1, -5, 1, 4, -5, 4, 4), 0),
            0, -1, 0, -1, 0, 0, -1, -1, 0, 0, 1, 4, 0, 1, 0, 4);
        row("a triangle", sidesOf(made(MIXED), 2), -2, 1, 1, 2, 1, -2, 1, 2, 1, 1, -2, 2);
        row("a slant one with great numbers", sidesOf(with(5, 0, 0, 0, 4, 0, 0, 0, 3), 0),
            -125, 36, 48, 144, 45, -136, 75, 225, 80, 100, -123, 400);
    }

    private static void sidesFilling1() {
        says("Filling 1: its step from the first CORNER to the second one, without a common divisor, and back");
        row("a row", sidesOf(made(MIXED), 1), -2, -1, -1, 4, 2, 1, 1, 8);
        row("a row given the other way", sidesOf(with(3, 1, 1, -1, -1, -1), 0), -2, -1, -1, 4, 2, 1, 1, 8);
        row("a row along y", sidesOf(with(1, 5, 1, 1, -5, 1), 0), 0, -1, 0, 5, 0, 1, 0, 5);
        row("a row along z", sidesOf(with(1, 1, 2, 1, 1, 4), 0), 0, 0, -1, -2, 0, 0, 1, 4);
        row("a long row", sidesOf(with(-5, 5, -5, 5, -5, 5), 0), -1, 1, -1, 15, 1, -1, 1, 15);
        says("Filling 0: none");
        for (int[] parts : new int[][] {{0, 0, 0}, {5, -5, 5}, {1, 2, 3, 1, 2, 3}}) {
            due("sides of " + Arrays.toString(parts), with(parts).about(0, 3), 0);
            due("side(0, 0, 3) of " + Arrays.toString(parts), with(parts).side(0, 0, 3), NO_PART);
        }
    }

    private static void kindIs(String told, long want, int... parts) {
        due("kind of " + told, with(parts).about(0, 0), want);
    }

    private static void kinds() {
        says("KINDS, the first that fits: 4 MIRROR");
        kindIs("nought, a brick and a wedge", 4, 0, 0, 0);
        kindIs("a row about nought, a brick and a wedge", 4, -5, 0, 0, 5, 0, 0);
        kindIs("an oblong about nought, a brick and flat", 4, -1, 0, -2, 1, 0, -2, -1, 0, 2, 1, 0, 2);
        kindIs("a cube about nought", 4, box(-5, 5, -5, 5, -5, 5));
        kindIs("a brick about nought", 4, box(-1, 1, -2, 2, -3, 3));
        says("KINDS: 3 BRICK");
        kindIs("a point, a wedge as well", 3, 0, 0, 1);
        kindIs("a row along a direction, a wedge as well", 3, 1, 0, 0, 2, 0, 0);
        kindIs("a row about nought in x, beside it in y", 3, -1, 1, 0, 1, 1, 0);
        kindIs("an oblong, flat as well", 3, 0, 0, 0, 0, 1, 0, 0, 0, 5, 0, 1, 5);
        kindIs("a brick not about nought in x", 3, box(-5, 4, -5, 5, -5, 5));
        kindIs("a brick not about nought in y", 3, box(-5, 5, -4, 5, -5, 5));
        kindIs("a brick not about nought in z", 3, box(-5, 5, -5, 5, -5, 4));
        says("KINDS: 2 WEDGE: one CORNER more than it FILLS");
        kindIs("a slant row", 2, 0, 0, 0, 1, 1, 0);
        kindIs("a slant row about nought", 2, -1, 1, 0, 1, -1, 0);
        kindIs("a triangle, flat as well", 2, TRIANGLE);
        kindIs("three corners of an oblong", 2, 0, 0, 0, 0, 1, 0, 0, 0, 5);
        kindIs("four of the corners of a cube", 2, 0, 0, 0, 1, 1, 0, 1, 0, 1, 0, 1, 1);
        says("KINDS: 1 FLAT; 0 BODY");
        kindIs("four in a plane", 1, 0, 0, 0, 3, 0, 0, 0, 3, 0, 2, 2, 0);
        kindIs("a slant square about nought", 1, 1, 0, 0, -1, 0, 0, 0, 1, 0, 0, -1, 0);
        kindIs("a slant oblong", 1, 0, 0, 0, 1, 1, 0, 0, 0, 2, 1, 1, 2);
        kindIs("an octahedron about nought", 0, OCTAHEDRON);
        kindIs("a brick without one corner", 0, Arrays.copyOf(box(0, 1, 0, 1, 0, 1), 21));
        for (int i = 0; i < 24; i++) {
            int[] parts = box(0, 2, 0, 2, 0, 2);
            parts[i] = 1;
            kindIs("a brick with number " + i + " of its corners amiss", 0, parts);
        }
        for (int i = 0; i < 12; i++) {
            int[] parts = {0, 0, 3, 0, 2, 3, 2, 0, 3, 2, 2, 3};
            parts[i] = 1;
            kindIs("an oblong with number " + i + " of its corners amiss", i % 3 == 2 ? 2 : 1, parts);
        }
        kindIs("a slant brick", 0, 0, 0, 0, 1, 0, 0, 0, 1, 0, 1, 1, 0, 0, 1, 1, 1, 1, 1, 0, 2, 1, 1, 2, 1);
    }

    private static int[] box(int x, int toX, int y, int toY, int z, int toZ) {
        return new int[] {
            x, y, z, toX, y, z, x, toY, z, toX, toY, z, x, y, toZ, toX, y, toZ, x, toY, toZ, toX, toY, toZ};
    }

    /** Of the FORTY twelve each in bodies 0, 1, 3; these joined in 2 and 4: 24 and 36; so many of the rest in 5. */
    private static Setting joined(int rest) {
        return s -> {
            make(s, Arrays.copyOfRange(FORTY, 0, 36));
            make(s, Arrays.copyOfRange(FORTY, 36, 72));
            s.join(0, 1);
            make(s, Arrays.copyOfRange(FORTY, 72, 108));
            s.join(2, 3);
            make(s, Arrays.copyOfRange(FORTY, 108, 108 + 3 * rest));
        };
    }

    private static void manyCorners() {
        says("The most CORNERS and SIDES: 40, and 76 of three CORNERS each");
        SwellBodies s = made(joined(4));
        due("join(4, 5)", s.join(4, 5), 6);
        row("about it", aboutOf(s, 6), 0, 3, 40, 76, 40);
        int touched = 0;
        for (int i = 0; i < 76; i++) {
            touched += s.on(6, i);
        }
        // Euler: corners and sides are two more than edges, and each edge stands in two sides.
        due("corners on all sides", touched, 2 * (40 + 76 - 2));
        due("on(6, 76)", s.on(6, 76), BAD);
        due("side(6, 76, 0)", s.side(6, 76, 0), NO_PART);
        due("cornerOf(6, 39, 0)", s.cornerOf(6, 39, 0), 5);
        due("cornerOf(6, 40, 0)", s.cornerOf(6, 40, 0), NO_PART);
        for (int i = 0; i < FORTY.length; i += 3) {
            due("has, one of the forty", s.has(6, FORTY[i], FORTY[i + 1], FORTY[i + 2], 1), 1);
        }
        due("count(6, 1)", s.count(6, 1), wholePoints(1, false));
        due("inner(6, 1)", s.inner(6, 1), wholePoints(1, true));
    }

    /** How many whole points has() tells of the body of forty corners; an object bears 512 calls. */
    private static int wholePoints(int n, boolean within) {
        int found = 0;
        for (int x = -5 * n; x <= 5 * n; x++) {
            SwellBodies s = made(joined(4));
            s.join(4, 5);
            for (int y = -5 * n; y <= 5 * n; y++) {
                for (int z = -5 * n; z <= 5 * n; z++) {
                    found += s.has(6, x, y, z, n) >= (within ? 2 : 1) ? 1 : 0;
                }
            }
        }
        return found;
    }

    private static void has() {
        says("13: q 1 to 1000. BAD");
        for (int b = 0; b < 4; b++) {
            int of = b;
            range("has(" + b + ", 0, 0, 0, q)", MIXED, (s, q) -> s.has(of, 0, 0, 0, q), 1, 1000, BAD);
        }
        says("13: x, y, z -100000 to 100000. BAD");
        range("has(3, v, 0, 0, 1)", MIXED, (s, v) -> s.has(3, v, 0, 0, 1), -100000, 100000, BAD);
        range("has(3, 0, v, 0, 1)", MIXED, (s, v) -> s.has(3, 0, v, 0, 1), -100000, 100000, BAD);
        range("has(3, 0, 0, v, 1)", MIXED, (s, v) -> s.has(3, 0, 0, v, 1), -100000, 100000, BAD);
        range("has(0, v, 0, 0, 1000)", MIXED, (s, v) -> s.has(0, v, 0, 0, 1000), -100000, 100000, BAD);
        for (int b = 0; b < 4; b++) {
            for (int far : new int[] {-100000, 100000}) {
                keeps("has, far in x", MIXED, placed(b, far, 0, 0, 1), 0);
                keeps("has, far in y", MIXED, placed(b, 0, far, 0, 1000), 0);
                keeps("has, far in z", MIXED, placed(b, 0, 0, far, 1), 0);
                keeps("has, far in all", MIXED, placed(b, far, far, far, 1000), 0);
            }
        }
    }

    private static Call placed(int b, int x, int y, int z, int q) {
        return s -> s.has(b, x, y, z, q);
    }

    private static void placeIs(int b, int x, int y, int z, int q, int want) {
        due("has(" + b + ", " + x + ", " + y + ", " + z + ", " + q + ")", made(MIXED).has(b, x, y, z, q), want);
    }

    private static void hasOnTheSkin() {
        says("13: 2 within (INNER), 1 on its skin, 0 not; filling 3");
        for (int sign = -1; sign <= 1; sign += 2) {
            placeIs(3, sign * 1000, 0, 0, 1000, 1);
            placeIs(3, sign * 999, 0, 0, 1000, 2);
            placeIs(3, sign * 1001, 0, 0, 1000, 0);
            placeIs(3, 0, sign * 500, 500, 1000, 1);
            placeIs(3, 0, sign * 500, 499, 1000, 2);
            placeIs(3, 0, sign * 500, 501, 1000, 0);
            placeIs(3, 334, 333, sign * 333, 1000, 1);
            placeIs(3, 333, 333, sign * 333, 1000, 2);
            placeIs(3, 334, 333, sign * 334, 1000, 0);
            placeIs(3, 0, 0, sign, 1, 1);
            placeIs(3, 0, 0, sign * 2, 1, 0);
        }
        placeIs(3, 0, 0, 0, 1, 2);
        placeIs(3, 0, 0, 0, 1000, 2);
        says("13: within, on its skin, not; filling 2");
        placeIs(2, 667, 667, 666, 1000, 2);
        placeIs(2, 667, 667, 667, 1000, 0);
        placeIs(2, 667, 667, 665, 1000, 0);
        placeIs(2, 1000, 1000, 0, 1000, 1);
        placeIs(2, 1000, 999, 1, 1000, 2);
        placeIs(2, 1000, 1001, -1, 1000, 0);
        placeIs(2, 2000, 0, 0, 1000, 1);
        placeIs(2, 2001, -1, 0, 1000, 0);
        says("13: within, on its skin, not; filling 1");
        placeIs(1, 1000, 0, 0, 1000, 2);
        placeIs(1, 1002, 1, 1, 1000, 2);
        placeIs(1, 1002, 1, 2, 1000, 0);
        placeIs(1, 1002, 2, 1, 1000, 0);
        placeIs(1, 1001, 1, 1, 1000, 0);
        placeIs(1, 3000, 1000, 1000, 1000, 1);
        placeIs(1, 2998, 999, 999, 1000, 2);
        placeIs(1, 3002, 1001, 1001, 1000, 0);
        placeIs(1, -1, -1, -1, 1, 1);
        placeIs(1, -1002, -1001, -1001, 1000, 0);
        rowsAllWays();
        says("13: within; filling 0: the one point");
        placeIs(0, 1, 2, 3, 1, 2);
        placeIs(0, 1000, 2000, 3000, 1000, 2);
        placeIs(0, 1001, 2000, 3000, 1000, 0);
        placeIs(0, 1000, 1999, 3000, 1000, 0);
        placeIs(0, 1000, 2000, 3001, 1000, 0);
        placeIs(0, 1, 2, 3, 2, 0);
    }

    /** Rows of two steps each way from (1, 0, -1), and the halves of whole points about them. */
    private static void rowsAllWays() {
        for (int i = 14; i < 27; i++) {
            int[] d = near(i);
            SwellBodies s = with(1, 0, -1, 1 + 2 * d[0], 2 * d[1], -1 + 2 * d[2]);
            for (int j = 0; j < 343; j++) {
                int[] away = {j / 49 - 1, j / 7 % 7 - 1, j % 7 - 1};
                int want = 0;
                for (int t = 0; t <= 4; t++) {
                    boolean there = away[0] == t * d[0] && away[1] == t * d[1] && away[2] == t * d[2];
                    want = !there ? want : t == 0 || t == 4 ? 1 : 2;
                }
                due("has, " + Arrays.toString(away) + " halves along " + Arrays.toString(d),
                    s.has(0, 2 + away[0], away[1], -2 + away[2], 2), want);
            }
            due("count of the row along " + Arrays.toString(d), s.count(0, 5), 11);
            due("inner of the row along " + Arrays.toString(d), s.inner(0, 5), 9);
        }
    }

    // ---- Promises 14 to 20: the swellings ----

    private static long counted(int b, long n) {
        switch (b) {
            case 0: return 1;
            case 1: return 2 * n + 1;
            case 2: return (2 * n + 1) * (n + 1);
            default: return (4 * n * n * n + 6 * n * n + 8 * n + 3) / 3;
        }
    }

    private static void count() {
        says("14: COUNT of the SWELLING by n (0 to 5). BAD");
        for (int b = 0; b < 4; b++) {
            int of = b;
            range("count(" + b + ", n)", MIXED, (s, n) -> s.count(of, n), 0, 5, BAD);
            for (int n = 0; n <= 5; n++) {
                due("count(" + b + ", " + n + ")", made(MIXED).count(b, n), counted(b, n));
            }
        }
        for (int n = 0; n <= 5; n++) {
            due("count of the greatest by " + n, with(box(-5, 5, -5, 5, -5, 5)).count(0, n),
                (10 * n + 1) * (10 * n + 1) * (10 * n + 1));
            int far = (n + 1) * (2 * n + 1) * (3 * n + 1);
            due("count of a brick far in x by " + n, with(box(4, 5, -1, 1, -5, -2)).count(0, n), far);
            due("count of a brick far in y by " + n, with(box(-5, -2, 4, 5, -1, 1)).count(0, n), far);
            due("count of a brick far in z by " + n, with(box(-1, 1, -5, -2, 4, 5)).count(0, n), far);
        }
    }

    private static void inner() {
        says("15: INNER of the SWELLING by n (1 to 5). BAD");
        for (int b = 0; b < 4; b++) {
            int of = b;
            range("inner(" + b + ", n)", MIXED, (s, n) -> s.inner(of, n), 1, 5, BAD);
        }
        says("INNER: those that lie in it with each SIDE's condition as < (filling 0: the one point)");
        for (int n = 1; n <= 5; n++) {
            due("inner of a point by " + n, made(MIXED).inner(0, n), 1);
            due("inner of a row by " + n, made(MIXED).inner(1, n), 2 * n - 1);
            due("inner of a triangle by " + n, made(MIXED).inner(2, n), (2 * n - 1) * (n - 1));
            due("inner of an octahedron by " + n, made(MIXED).inner(3, n), counted(3, n - 1));
            due("inner of a row of two by " + n, with(0, 0, 0, 5, 1, 0).inner(0, n), n - 1);
            due("inner of the greatest by " + n, with(box(-5, 5, -5, 5, -5, 5)).inner(0, n),
                (10 * n - 1) * (10 * n - 1) * (10 * n - 1));
        }
    }

    private static void number() {
        says("16: NUMBER K (0 to 3) of THE RULE. BAD -1000000");
        long[][] want = {{6, 0, 0, 0}, {6, 12, 0, 0}, {6, 18, 12, 0}, {6, 16, 12, 8}};
        for (int b = 0; b < 4; b++) {
            int of = b;
            range("number(" + b + ", k)", MIXED, (s, k) -> s.number(of, k), 0, 3, NO_NUMBER);
            for (int k = 0; k < 4; k++) {
                due("number(" + b + ", " + k + ")", made(MIXED).number(b, k), want[b][k]);
            }
        }
        SwellBodies s = with(box(-5, 5, -5, 5, -5, 5));
        due("the greatest number", s.number(0, 3), 6000);
        due("number 2 of the greatest", s.number(0, 2), 1800);
        says("16: NUMBER K may itself be below 0");
        SwellBodies hollow = with(HOLLOW);
        long[] numbers = {6, -123, 6, 135};
        for (int k = 0; k < 4; k++) {
            due("number " + k + " of a hollow wedge", hollow.number(0, k), numbers[k]);
        }
        due("its count by 1", hollow.count(0, 1), 4);
        due("its count by 2", hollow.count(0, 2), 144);
        due("its inner by 1", hollow.inner(0, 1), 0);
    }

    private static void rule() {
        says("17: THE RULE at n (-1000 to 1000). BAD: -1L of n");
        for (int b = 0; b < 4; b++) {
            int of = b;
            refuses("rule(" + b + ", n)", MIXED, (s, n) -> s.rule(of, n), -1L,
                -1001, 1001, -1256, 1256, 65536, -65536, LEAST, LEAST + 1, GREATEST - 1, GREATEST);
            for (int n : new int[] {-1000, -999, -2, 0, 1, 5, 6, 999, 1000}) {
                due("rule(" + b + ", " + n + ")", made(MIXED).rule(b, n), counted(b, n));
            }
        }
        says("THE RULE: COUNT at each n from 0 on; so at n below 0");
        SwellBodies s = with(box(-5, 5, -5, 5, -5, 5));
        due("the greatest at 1000", s.rule(0, 1000), 10001L * 10001L * 10001L);
        due("the greatest at -1000", s.rule(0, -1000), -9999L * 9999L * 9999L);
        due("the greatest at 0", s.rule(0, 0), 1);
        due("nought below 0", with(box(0, 1, 0, 1, 0, 1)).rule(0, -1), 0);
        due("-1 that is no BAD", with(OCTAHEDRON).rule(0, -1), -1);
    }

    private static void stairs() {
        says("18: STAIRS: number i (0 to what it FILLS). BAD");
        long[][] want = {{1}, {1, 1}, {1, 3, 0}, {1, 3, 3, 1}};
        for (int b = 0; b < 4; b++) {
            int of = b;
            range("stairs(" + b + ", i)", MIXED, (s, i) -> s.stairs(of, i), 0, b, BAD);
            for (int i = 0; i <= b; i++) {
                due("stairs(" + b + ", " + i + ")", made(MIXED).stairs(b, i), want[b][i]);
            }
        }
        SwellBodies s = with(box(-5, 5, -5, 5, -5, 5));
        says("STAIRS: by turns with + and -");
        long[] greatest = {1, 1331 - 4, 9261 - 4 * 1331 + 6, 29791 - 4 * 9261 + 6 * 1331 - 4};
        for (int i = 0; i < 4; i++) {
            due("stairs of the greatest, " + i, s.stairs(0, i), greatest[i]);
        }
        long[] hollow = {1, 0, 134, 0};
        for (int i = 0; i < 4; i++) {
            due("stairs of a hollow wedge, " + i, with(HOLLOW).stairs(0, i), hollow[i]);
        }
    }

    private static void point() {
        says("19: the SWELLING by n (1 to 5), what 0 to 2. BAD is 10000");
        for (int b = 0; b < 4; b++) {
            int of = b;
            range("point(" + b + ", n, 0, 0)", MIXED, (s, n) -> s.point(of, n, 0, 0), 1, 5, NO_POINT);
            range("point(" + b + ", 1, 0, what)", MIXED, (s, what) -> s.point(of, 1, 0, what), 0, 2, NO_POINT);
        }
        says("19: Whole point i (0 on). BAD is 10000: also there is none such");
        for (int b = 0; b < 4; b++) {
            for (int n = 1; n <= 5; n++) {
                int of = b;
                int by = n;
                int last = (int) counted(b, n) - 1;
                range("point(" + b + ", " + n + ", i, 1)", MIXED, (s, i) -> s.point(of, by, i, 1), 0, last, NO_POINT);
            }
        }
        SwellBodies s = with(box(-5, 5, -5, 5, -5, 5));
        for (int what = 0; what < 3; what++) {
            due("the first of the most", s.point(0, 5, 0, what), -25);
            due("the last of the most", s.point(0, 5, 132650, what), 25);
            due("behind the last of the most", s.point(0, 5, 132651, what), NO_POINT);
        }
    }

    private static void pointsInOrder() {
        says("19: in order as CORNERS; 20: the number of a whole point in that order");
        for (int b = 0; b < 4; b++) {
            for (int n = 1; n <= 5; n++) {
                int last = (int) counted(b, n) - 1;
                long before = Long.MIN_VALUE;
                for (int i = 0; i <= last; i++) {
                    SwellBodies s = made(MIXED);
                    int x = s.point(b, n, i, 0);
                    int y = s.point(b, n, i, 1);
                    int z = s.point(b, n, i, 2);
                    long place = (x * 1000L + y) * 1000L + z;
                    String told = "point " + i + " of body " + b + " by " + n;
                    due(told + " comes after the one before", place > before ? 1 : 0, 1);
                    due(told + " is in the body", s.has(b, x, y, z, n) > 0 ? 1 : 0, 1);
                    due("rank of " + told, s.rank(b, n, x, y, z), i);
                    before = place;
                }
            }
        }
    }

    private static void rank() {
        says("20: the SWELLING by n (1 to 5). BAD, before NONE");
        range("rank(3, n, 0, 0, 0)", MIXED, (s, n) -> s.rank(3, n, 0, 0, 0), 1, 5, BAD);
        range("rank(3, n, 99, 0, 0)", MIXED, (s, n) -> s.rank(3, n, 99, 0, 0), 1, 5, BAD);
        range("rank(b, 1, 99, 0, 0)", MIXED, (s, b) -> s.rank(b, 1, 99, 0, 0), 0, 3, BAD);
        says("20: NONE: it is not in it");
        for (int n = 1; n <= 5; n++) {
            SwellBodies s = made(MIXED);
            int half = ((int) counted(3, n) - 1) / 2;
            due("rank of the least x by " + n, s.rank(3, n, -n, 0, 0), 0);
            due("rank of the middle by " + n, s.rank(3, n, 0, 0, 0), half);
            due("rank of the least z by " + n, s.rank(3, n, 0, 0, -n), half - n);
            due("rank of the greatest z by " + n, s.rank(3, n, 0, 0, n), half + n);
            due("rank of the least y by " + n, s.rank(3, n, 0, -n, 0), half - n * (n + 1));
            due("rank of the greatest y by " + n, s.rank(3, n, 0, n, 0), half + n * (n + 1));
            due("rank of the greatest x by " + n, s.rank(3, n, n, 0, 0), 2 * half);
            for (int sign = -1; sign <= 1; sign += 2) {
                due("rank just outside in x by " + n, s.rank(3, n, sign * (n + 1), 0, 0), NONE);
                due("rank just outside in y by " + n, s.rank(3, n, 0, sign * (n + 1), 0), NONE);
                due("rank just outside in z by " + n, s.rank(3, n, 0, 0, sign * (n + 1)), NONE);
                due("rank just outside a side by " + n, s.rank(3, n, sign, n, 0), NONE);
            }
        }
        due("rank beside a row", made(MIXED).rank(1, 1, 1, 0, 1), NONE);
        due("rank between a row's whole points", made(MIXED).rank(1, 1, 2, 0, 0), NONE);
        due("rank behind a row", made(MIXED).rank(1, 1, 5, 2, 2), NONE);
        due("rank above a triangle", made(MIXED).rank(2, 1, 1, 1, 1), NONE);
        due("rank beside a triangle in its plane", made(MIXED).rank(2, 1, 3, -1, 0), NONE);
        due("rank of a point by 5", made(MIXED).rank(0, 5, 5, 10, 15), 0);
        due("rank of a point by 5, not swollen", made(MIXED).rank(0, 5, 1, 2, 3), NONE);
    }

    private static void rankFarOut() {
        says("20: NONE: numbers far out");
        int[] far = {16, -16, 256, -256, 65536, -65536, 1 << 30, -(1 << 30), LEAST, LEAST + 1, LEAST + 2,
            GREATEST - 1, GREATEST};
        Setting setting = s -> {
            mixed(s);
            s.clear();
            // This pyramid's sides have even numbers: twice the least int wraps round to nought.
            make(s, 0, 0, 0, 2, 0, 0, 0, 2, 0, 2, 2, 0, 1, 1, 2);
        };
        for (int b = 0; b < 5; b++) {
            for (int v : far) {
                SwellBodies s = made(setting);
                for (int[] p : new int[][] {{1, 1, 0}, {0, 0, 0}, {1, 2, 3}, {2, 0, 0}}) {
                    due("rank(" + b + ", 1, " + v + ", ..)", s.rank(b, 1, v, p[1], p[2]), NONE);
                    due("rank(" + b + ", 1, .., " + v + ", ..)", s.rank(b, 1, p[0], v, p[2]), NONE);
                    due("rank(" + b + ", 1, .., " + v + ")", s.rank(b, 1, p[0], p[1], v), NONE);
                }
                due("rank(" + b + ", 5, v, v, v)", s.rank(b, 5, v, v, v), NONE);
            }
        }
    }

    // ---- Promises 21 to 24: move, turn, join, slice ----

    private static void move() {
        says("21: A BODY moved by x, y, z, as a new one: its number");
        changes("move(1, 2, -4, 4)", MIXED, s -> s.move(1, 2, -4, 4), 4, "bodies", "body 4");
        row("moved", cornersOf(made(then(MIXED, s -> s.move(1, 2, -4, 4))), 4), 1, -5, 3, 5, -3, 5);
        changes("move(1, 0, 0, 0)", MIXED, s -> s.move(1, 0, 0, 0), 4, "bodies", "body 4");
        says("21: BAD: also a CORNER would have a number not -5 to 5");
        Setting setting = s -> make(s, box(-3, 2, -1, 4, 0, 5));
        range("move(0, v, 0, 0)", setting, (s, v) -> s.move(0, v, 0, 0), -2, 3, BAD);
        range("move(0, 0, v, 0)", setting, (s, v) -> s.move(0, 0, v, 0), -4, 1, BAD);
        range("move(0, 0, 0, v)", setting, (s, v) -> s.move(0, 0, 0, v), -5, 0, BAD);
        Setting ends = s -> {
            make(s, -5, -5, -5);
            make(s, 5, 5, 5);
        };
        range("move(0, v, v, v)", ends, (s, v) -> s.move(0, v, v, v), 0, 10, BAD);
        range("move(1, v, v, v)", ends, (s, v) -> s.move(1, v, v, v), -10, 0, BAD);
        row("moved as far as can be", cornersOf(made(then(ends, s -> s.move(0, 10, 10, 10))), 2), 5, 5, 5);
        says("21: BAD before FULL");
        refuses("move(0, v, 0, 0) with 8", CROWDED, (s, v) -> s.move(0, v, 0, 0), BAD, -1, 1, LEAST, GREATEST);
        refuses("move(b, 0, 0, 0) with 8", CROWDED, (s, b) -> s.move(b, 0, 0, 0), BAD, -1, 8, LEAST, GREATEST);
        keeps("move(0, 0, 5, 5) with 8", CROWDED, s -> s.move(0, 0, 5, 5), FULL);
    }

    private static void turn() {
        says("22: 0 x and y change places, 1 y and z, 2 x becomes -x, 3 x becomes x + y, 4 z becomes z - x");
        long[][] want = {
            {2, -1, 3, 5, -2, 0}, {-2, 0, 5, -1, 3, 2}, {1, 2, 3, 2, 5, 0}, {1, 2, 3, 3, 5, 0}, {-2, 5, 2, -1, 2, 4}};
        for (int way = 0; way < 5; way++) {
            SwellBodies s = with(-1, 2, 3, -2, 5, 0);
            due("turn(0, " + way + ")", s.turn(0, way), 1);
            row("turned " + way, cornersOf(s, 1), want[way]);
        }
        says("22: A BODY turned, as a new one: its number");
        for (int way = 0; way < 5; way++) {
            int by = way;
            changes("turn(1, " + way + ")", MIXED, t -> t.turn(1, by), 4, "bodies", "body 4");
        }
        says("22: BAD: way");
        for (Setting setting : List.of(MIXED, CROWDED)) {
            range("turn(3, way)", setting, (t, way) -> t.turn(3, way), 0, 4, BAD);
        }
    }

    private static void turnTooFar() {
        says("22: BAD: a CORNER likewise");
        int[][] kept = {{0, 2, 3, 0}, {0, -2, -3, 0}, {0, 5, 0, 0}, {0, 0, -5, 0}, {0, -5, 5, 0},
            {1, 2, 0, -3}, {1, -2, 0, 3}, {1, 5, 0, 5}, {1, -5, 0, -5}, {1, 5, 0, 0}};
        int[][] refused = {{0, 3, 3, 0}, {0, -3, -3, 0}, {0, 5, 1, 0}, {0, -1, -5, 0}, {0, 5, 5, 5},
            {1, 3, 0, -3}, {1, -3, 0, 3}, {1, 5, 0, -1}, {1, -1, 0, 5}, {1, -5, 0, 5}};
        for (int i = 0; i < kept.length; i++) {
            int[] p = kept[i];
            due("turn of " + Arrays.toString(p), with(p[1], p[2], p[3]).turn(0, 3 + p[0]), 1);
            int[] q = refused[i];
            keeps("turn of " + Arrays.toString(q), s -> make(s, q[1], q[2], q[3]), s -> s.turn(0, 3 + q[0]), BAD);
            keeps("turn of one too far beside others", s -> make(s, 0, 0, 0, 1, 1, 1, q[1], q[2], q[3]),
                s -> s.turn(0, 3 + q[0]), BAD);
        }
        for (int way = 0; way < 3; way++) {
            due("turn of the greatest, " + way, with(box(-5, 5, -5, 5, -5, 5)).turn(0, way), 1);
        }
        says("22: BAD before FULL");
        keeps("turn(1, 3) with 8", CROWDED, s -> s.turn(1, 3), BAD);
        keeps("turn(1, 5) with 8", CROWDED, s -> s.turn(1, 5), BAD);
        keeps("turn(8, 0) with 8", CROWDED, s -> s.turn(8, 0), BAD);
        keeps("turn(1, 4) with 8", CROWDED, s -> s.turn(1, 4), FULL);
    }

    private static void join() {
        says("23: All that lies between the CORNERS of two BODIES as a new one: its number");
        changes("join(0, 1)", MIXED, s -> s.join(0, 1), 4, "bodies", "body 4");
        row("a point and a row", cornersOf(made(then(MIXED, s -> s.join(0, 1))), 4), -1, -1, -1, 1, 2, 3, 3, 1, 1);
        changes("join(2, 2)", MIXED, s -> s.join(2, 2), 4, "bodies", "body 4");
        row("one with itself", cornersOf(made(then(MIXED, s -> s.join(2, 2))), 4), 0, 0, 2, 0, 2, 0, 2, 0, 0);
        row("one in the other", cornersOf(made(then(MIXED, s -> s.join(2, 3))), 4),
            -1, 0, 0, 0, -1, 0, 0, 0, -1, 0, 0, 2, 0, 2, 0, 2, 0, 0);
        says("23: FULL: also more than 40 CORNERS of both");
        changes("join of 36 and 4", joined(4), s -> s.join(4, 5), 6, "bodies", "body 6");
        changes("join of 4 and 36", joined(4), s -> s.join(5, 4), 6, "bodies", "body 6");
        Setting five = joinedAndFive();
        keeps("join of 36 and 5", five, s -> s.join(4, 5), FULL);
        keeps("join of 5 and 36", five, s -> s.join(5, 4), FULL);
        keeps("join of 24 twice", five, s -> s.join(2, 2), FULL);
        keeps("join of 36 twice", five, s -> s.join(4, 4), FULL);
        due("join of 24 and 12", made(five).join(2, 3), 6);
        Setting forty = then(joined(4), s -> s.join(4, 5));
        refuses("join(6, b), 40 and more", forty, (s, b) -> s.join(6, b), FULL, 0, 1, 2, 3, 4, 5, 6);
        refuses("join(b, 6), more and 40", forty, (s, b) -> s.join(b, 6), FULL, 0, 1, 2, 3, 4, 5);
        says("23: BAD before FULL");
        refuses("join(6, b), 40 and none", forty, (s, b) -> s.join(6, b), BAD, -1, 7, LEAST, GREATEST);
        refuses("join(0, b) with 8", CROWDED, (s, b) -> s.join(0, b), BAD, -1, 8, LEAST, GREATEST);
        refuses("join(b, 0) with 8", CROWDED, (s, b) -> s.join(b, 0), BAD, -1, 8, LEAST, GREATEST);
        keeps("join(0, 1) with 8", CROWDED, s -> s.join(0, 1), FULL);
    }

    private static Setting joinedAndFive() {
        return s -> {
            joined(4).build(s);
            s.drop();
            give(s, Arrays.copyOfRange(FORTY, 105, 120));
            s.body();
        };
    }

    private static void slice() {
        Setting setting = s -> make(s, box(-3, 2, -1, 4, 0, 5));
        says("24: whole points whose number in a direction (0 x, 1 y, 2 z) is v. NONE: there is none such point");
        range("slice(0, 0, v)", setting, (s, v) -> s.slice(0, 0, v), -3, 2, NONE);
        range("slice(0, 1, v)", setting, (s, v) -> s.slice(0, 1, v), -1, 4, NONE);
        range("slice(0, 2, v)", setting, (s, v) -> s.slice(0, 2, v), 0, 5, NONE);
        for (int way = 0; way < 3; way++) {
            int[] least = {-3, -1, 0};
            int[] greatest = {2, 4, 5};
            for (int v : new int[] {least[way], greatest[way]}) {
                int[] from = least.clone();
                int[] to = greatest.clone();
                from[way] = v;
                to[way] = v;
                SwellBodies s = made(setting);
                due("slice(0, " + way + ", " + v + ")", s.slice(0, way, v), 1);
                row("about it", aboutOf(s, 1), 3, 2, 4, 4, 36);
                for (int i = 0; i < 3; i++) {
                    due("its first corner, " + WAYS[i], s.cornerOf(1, 0, i), from[i]);
                    due("its last corner, " + WAYS[i], s.cornerOf(1, 3, i), to[i]);
                }
            }
        }
        says("24: BAD: way, before NONE, before FULL");
        range("slice(3, way, 0)", MIXED, (s, way) -> s.slice(3, way, 0), 0, 2, BAD);
        range("slice(3, way, 99)", MIXED, (s, way) -> s.slice(3, way, 99), 0, 2, BAD);
        range("slice(3, way, 0) with 8", CROWDED, (s, way) -> s.slice(3, way, 0), 0, 2, BAD);
        range("slice(b, 0, 99)", MIXED, (s, b) -> s.slice(b, 0, 99), 0, 3, BAD);
        range("slice(b, 0, 99) with 8", CROWDED, (s, b) -> s.slice(b, 0, 99), 0, 7, BAD);
        range("slice(3, 0, v) with 8", CROWDED, (s, v) -> s.slice(3, 0, v), -1, 1, NONE);
        keeps("slice(3, 0, 1) with 8", CROWDED, s -> s.slice(3, 0, 1), FULL);
        keeps("slice(6, 0, 1) with 8, between whole points", CROWDED, s -> s.slice(6, 0, 1), NONE);
    }

    private static void sliceIs(int b, int way, int v, long... want) {
        SwellBodies s = made(MIXED);
        s.slice(b, way, v);
        row("corners of slice(" + b + ", " + way + ", " + v + ")", cornersOf(s, 4), want);
    }

    private static void sliceOfFillings() {
        says("24: The BODY between these, of each filling");
        changes("slice(3, 0, 0)", MIXED, s -> s.slice(3, 0, 0), 4, "bodies", "body 4");
        for (int way = 0; way < 3; way++) {
            sliceIs(0, way, way + 1, 1, 2, 3);
            int in = way;
            refuses("slice(0, way, v)", MIXED, (s, v) -> s.slice(0, in, v), NONE, way, way + 2, LEAST, GREATEST);
        }
        sliceIs(1, 0, 1, 1, 0, 0);
        sliceIs(1, 1, 1, 3, 1, 1);
        sliceIs(1, 2, -1, -1, -1, -1);
        refuses("slice(1, 0, v), between whole points", MIXED, (s, v) -> s.slice(1, 0, v), NONE, 0, 2, -2, 4);
        sliceIs(2, 0, 0, 0, 0, 2, 0, 2, 0);
        sliceIs(2, 1, 1, 0, 1, 1, 1, 1, 0);
        sliceIs(2, 2, 2, 0, 0, 2);
        refuses("slice(2, 2, v)", MIXED, (s, v) -> s.slice(2, 2, v), NONE, -1, 3);
        sliceIs(3, 0, 0, 0, -1, 0, 0, 0, -1, 0, 0, 1, 0, 1, 0);
        sliceIs(3, 1, 0, -1, 0, 0, 0, 0, -1, 0, 0, 1, 1, 0, 0);
        sliceIs(3, 2, 1, 0, 0, 1);
        says("24: The BODY between all whole points, where the cut has corners with fractions");
        SwellBodies s = with(0, 0, 0, 5, 0, 0, 0, 5, 0, 0, 0, 2);
        due("slice(0, 2, 1)", s.slice(0, 2, 1), 1);
        row("its corners", cornersOf(s, 1), 0, 0, 1, 0, 2, 1, 2, 0, 1);
        due("made of", s.about(1, 4), 6);
    }

    // ---- Promises 25 to 28 ----

    private static void within() {
        says("25: Whether a BODY lies in another one (1, 0)");
        SwellBodies s = with(box(0, 3, 0, 3, 0, 3));
        make(s, 0, 0, 0, 3, 3, 3);
        make(s, 3, 3, 3);
        make(s, 1, 1, 1, 2, 1, 1, 1, 2, 1, 1, 1, 2);
        make(s, 0, 0, 0, 3, 3, 4);
        make(s, 1, 1, 3, 2, 1, 3, 1, 2, 3);
        make(s, -1, 0, 0);
        make(s, 1, 1, 1, 2, 2, 2);
        int[][] in = {{0, 0}, {1, 0}, {2, 0}, {3, 0}, {5, 0}, {7, 0}, {1, 1}, {2, 1}, {7, 1}, {2, 2}, {3, 3}, {4, 4},
            {5, 5}, {6, 6}, {7, 7}};
        for (int a = 0; a < 8; a++) {
            for (int b = 0; b < 8; b++) {
                long want = 0;
                for (int[] pair : in) {
                    want = pair[0] == a && pair[1] == b ? 1 : want;
                }
                due("within(" + a + ", " + b + ")", s.within(a, b), want);
            }
        }
        says("25: BAD");
        keeps("within(4, 4), neither is there", MIXED, t -> t.within(4, 4), BAD);
        keeps("within(-1, 4), neither is there", MIXED, t -> t.within(-1, 4), BAD);
    }

    private static void same() {
        says("26: Whether two have the same CORNERS (2), the one is the other moved (1), neither (0)");
        SwellBodies s = with(-5, -5, -5, -4, -5, -5, -5, -3, -5);
        make(s, -5, -3, -5, -5, -5, -5, -4, -5, -5, -5, -4, -5, -5, -5, -5);
        make(s, 4, 3, 5, 5, 3, 5, 4, 5, 5);
        make(s, 4, 3, 5, 5, 3, 5, 4, 5, 4);
        make(s, -5, -5, -5, -4, -5, -5, -5, -4, -5);
        make(s, -5, -5, -5, -4, -5, -5);
        make(s, 5, 5, 5, 4, 5, 5, 5, 3, 5);
        make(s, -5, -5, -5, -4, -5, -5, -5, -3, -5, -4, -3, -5);
        long[] want = {2, 2, 1, 0, 0, 0, 0, 0};
        for (int b = 0; b < 8; b++) {
            due("same(0, " + b + ")", s.same(0, b), want[b]);
            due("same(" + b + ", 0)", s.same(b, 0), want[b]);
            due("same(" + b + ", " + b + ")", s.same(b, b), 2);
        }
        SwellBodies points = with(-5, 5, -5);
        make(points, 5, -5, 5);
        due("same, two points", points.same(0, 1), 1);
        make(points, -5, 5, -5, -5, 5, -5);
        due("same, one point twice", points.same(0, 2), 2);
        says("26: BAD");
        keeps("same(4, 4), neither is there", MIXED, t -> t.same(4, 4), BAD);
        keeps("same(-1, -1), neither is there", NEW, t -> t.same(-1, -1), BAD);
    }

    private static void most() {
        says("27: a, b, c -100 to 100. BAD -1000000");
        for (int b = 0; b < 4; b++) {
            int of = b;
            for (boolean high : new boolean[] {false, true}) {
                range("most(" + b + ", v, 0, 0, " + high + ")", MIXED, (s, v) -> s.most(of, v, 0, 0, high),
                    -100, 100, NO_NUMBER);
                range("most(" + b + ", 0, v, 0, " + high + ")", MIXED, (s, v) -> s.most(of, 0, v, 0, high),
                    -100, 100, NO_NUMBER);
                range("most(" + b + ", 0, 0, v, " + high + ")", MIXED, (s, v) -> s.most(of, 0, 0, v, high),
                    -100, 100, NO_NUMBER);
            }
        }
        says("27: The least (high false), the greatest of a x + b y + c z in a BODY");
        SwellBodies s = with(box(-5, 5, -5, 5, -5, 5));
        for (int a = -100; a <= 100; a += 100) {
            for (int b = -100; b <= 100; b += 100) {
                for (int c = -100; c <= 100; c += 100) {
                    int want = 5 * (Math.abs(a) + Math.abs(b) + Math.abs(c));
                    due("most(0, " + a + ", " + b + ", " + c + ", true)", s.most(0, a, b, c, true), want);
                    due("most(0, " + a + ", " + b + ", " + c + ", false)", s.most(0, a, b, c, false), -want);
                }
            }
        }
        SwellBodies point = with(POINT);
        due("the greatest at a point", point.most(0, 100, -100, 1, true), -97);
        due("the least at a point", point.most(0, 100, -100, 1, false), -97);
        for (boolean high : new boolean[] {false, true}) {
            due("the least that can be, " + high, with(-5, -5, -5).most(0, 100, 100, 100, high), -1500);
            due("the greatest that can be, " + high, with(-5, -5, -5).most(0, -100, -100, -100, high), 1500);
        }
        SwellBodies row = with(ROW);
        due("the greatest, below 0", row.most(0, -100, 100, 100, true), -100);
        due("the least, below 0", row.most(0, -100, 100, 100, false), -100);
        due("the greatest of a row", row.most(0, 1, 2, 3, true), 8);
        due("the least of a row", row.most(0, 1, 2, 3, false), -6);
    }

    private static void all() {
        says("28: 0 BODIES, 1 POINTS of THE DRAFT, 2 CELLS of SHEAF 0 (NONE: nothing). BAD");
        for (Setting setting : List.of(NEW, MIXED, CROWDED)) {
            range("all(what)", setting, (s, what) -> s.all(what), 0, 2, BAD);
        }
        long[][] want = {{0, 0, NONE}, {4, 2, 10}, {8, 12, 36}};
        List<Setting> settings = List.of(NEW, MIXED, CROWDED);
        for (int i = 0; i < 3; i++) {
            for (int what = 0; what < 3; what++) {
                due("all(" + what + ") of setting " + i, made(settings.get(i)).all(what), want[i][what]);
            }
        }
        says("28: 2 CELLS of SHEAF 0 (NONE: nothing)");
        SwellBodies s = new SwellBodies();
        s.sheaf(1, 0, 3);
        s.sheaf(2, 1, 3);
        s.sheaf(3, 0, 3);
        s.sheaf(0, 0, -1);
        s.sheaf(0, 0, 37);
        due("all(2), sheaf 0 is nothing", s.all(2), NONE);
        s.sheaf(0, 1, 0);
        due("all(2), sheaf 0 has no cells", s.all(2), 0);
        s.sheaf(0, 0, 36);
        due("all(2), sheaf 0 is full", s.all(2), 36);
    }

    private static void calls() {
        says("An object is used for at most 512 calls after it has been made");
        SwellBodies s = new SwellBodies();
        int made = 0;
        for (int round = 0; round < 102; round++) {
            due("corner", s.corner(round % 11 - 5, 0, 0), 1);
            due("body", s.body(), 0);
            due("count", s.count(0, 5), 1);
            due("rank", s.rank(0, 5, 5 * (round % 11 - 5), 0, 0), 0);
            due("drop", s.drop(), 0);
            made += 5;
        }
        due("calls so far", made, 510);
        due("the 511th call", s.corner(5, 5, 5), 1);
        due("the 512th call", s.all(1), 1);
        SwellBodies full = new SwellBodies();
        for (int call = 1; call <= 12; call++) {
            due("call " + call, full.corner(call % 6, 0, 0), call);
        }
        for (int call = 13; call <= 511; call++) {
            due("refused call " + call, full.corner(0, 0, 0), FULL);
        }
        due("the 512th call after refusals", full.clear(), 12);
    }
}

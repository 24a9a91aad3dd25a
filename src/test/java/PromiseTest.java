// Each promise by itself: ordinary inputs, the edges that the document names, wrong inputs.
public final class PromiseTest {
    private static final int BAD = -1, STATE = -2, FULL = -3, NONE = -4;
    private static final int LEAST = Integer.MIN_VALUE, GREATEST = Integer.MAX_VALUE;
    private static final int NO_PART = 1000, NO_POINT = 10000, NO_NUMBER = -1000000;
    private static final int[] NO_BODIES = {-1, 1, 8, LEAST, GREATEST};
    private static final int[] UNIT_CUBE = {
        0, 0, 0, 1, 0, 0, 0, 1, 0, 1, 1, 0, 0, 0, 1, 1, 0, 1, 0, 1, 1, 1, 1, 1};
    private static final int[] OCTAHEDRON = {
        1, 0, 0, -1, 0, 0, 0, 1, 0, 0, -1, 0, 0, 0, 1, 0, 0, -1};

    private static int wrong = 0;
    private static String promise = "";

    private static void due(String call, long got, long want) {
        if (got != want) {
            wrong++;
            System.out.println("promise " + promise + ": " + call + " answered " + got + ", due is " + want);
        }
    }

    private static void row(String call, long[] got, long... want) {
        due(call + ", how many", got.length, want.length);
        for (int i = 0; i < Math.min(got.length, want.length); i++) {
            due(call + ", number " + i, got[i], want[i]);
        }
    }

    private static int make(SwellBodies s, int... parts) {
        for (int i = 0; i + 2 < parts.length; i += 3) {
            s.corner(parts[i], parts[i + 1], parts[i + 2]);
        }
        return s.body();
    }

    private static SwellBodies with(int... parts) {
        SwellBodies s = new SwellBodies();
        make(s, parts);
        return s;
    }

    private static long[] corners(SwellBodies s, int b) {
        long[] found = new long[3 * Math.max(0, s.about(b, 2))];
        for (int i = 0; i < found.length; i++) {
            found[i] = s.cornerOf(b, i / 3, i % 3);
        }
        return found;
    }

    private static long[] sides(SwellBodies s, int b) {
        long[] found = new long[4 * Math.max(0, s.about(b, 3))];
        for (int i = 0; i < found.length; i++) {
            found[i] = s.side(b, i / 4, i % 4);
        }
        return found;
    }

    private static long[] bond(SwellBodies s, int b) {
        long[] found = new long[4];
        for (int i = 0; i < 4; i++) {
            found[i] = s.side(b, NONE, i);
        }
        return found;
    }

    public static void main(String[] args) {
        newObject();
        corner();
        sheaf();
        lay();
        draw();
        drawFirstMet();
        clear();
        body();
        drop();
        kinds();
        madeOf();
        cornerOf();
        sides();
        on();
        has();
        hasFlat();
        countAndInner();
        numberAndRule();
        stairs();
        point();
        rank();
        move();
        turn();
        join();
        slice();
        within();
        same();
        most();
        all();
        manyCalls();
        System.out.println(wrong == 0 ? "all answers are as due" : wrong + " answers are not as due");
        if (wrong != 0) {
            System.exit(1);
        }
    }

    private static void newObject() {
        promise = "1";
        SwellBodies other = with(UNIT_CUBE);
        other.corner(1, 1, 1);
        other.sheaf(0, 0, 3);
        SwellBodies s = new SwellBodies();
        due("all(0)", s.all(0), 0);
        due("all(1)", s.all(1), 0);
        due("all(2)", s.all(2), NONE);
        due("clear()", s.clear(), 0);
        due("about(0, 1)", s.about(0, 1), BAD);
        for (int k = 0; k < 4; k++) {
            due("lay(" + k + ", 0, 1)", s.lay(k, 0, 1), -11);
            due("draw(" + k + ", 0, 0)", s.draw(k, 0, 0), -11);
            due("draw(" + k + ", 1, 1)", s.draw(k, 1, 1), -11);
        }
        due("other all(0)", other.all(0), 1);
        due("other all(1)", other.all(1), 1);
        due("other all(2)", other.all(2), 3);
    }

    private static void corner() {
        promise = "2";
        SwellBodies s = new SwellBodies();
        for (int v : new int[] {6, -6, LEAST, GREATEST}) {
            due("corner(v, 0, 0)", s.corner(v, 0, 0), BAD);
            due("corner(0, v, 0)", s.corner(0, v, 0), BAD);
            due("corner(0, 0, v)", s.corner(0, 0, v), BAD);
        }
        due("all(1)", s.all(1), 0);
        due("corner(5, -5, 5)", s.corner(5, -5, 5), 1);
        due("corner(-5, 5, -5)", s.corner(-5, 5, -5), 2);
        for (int i = 3; i <= 12; i++) {
            due("corner(-5, 5, -5)", s.corner(-5, 5, -5), i);
        }
        due("corner(0, 0, 0)", s.corner(0, 0, 0), FULL);
        due("corner(0, 0, 6)", s.corner(0, 0, 6), BAD);
        due("all(1)", s.all(1), 12);
        due("body()", s.body(), 0);
        row("corners", corners(s, 0), -5, 5, -5, 5, -5, 5);
        due("corner(0, 0, 0)", s.corner(0, 0, 0), 1);
    }

    private static void sheaf() {
        promise = "3";
        SwellBodies s = new SwellBodies();
        for (int k : new int[] {-1, 4, LEAST, GREATEST}) {
            due("sheaf(" + k + ", 0, 1)", s.sheaf(k, 0, 1), BAD);
            due("sheaf(" + k + ", 0, -1)", s.sheaf(k, 0, -1), BAD);
        }
        for (int lane : new int[] {-1, 2, LEAST, GREATEST}) {
            due("sheaf(0, " + lane + ", 1)", s.sheaf(0, lane, 1), BAD);
            due("sheaf(0, " + lane + ", -1)", s.sheaf(0, lane, -1), BAD);
        }
        due("sheaf(0, 0, 37)", s.sheaf(0, 0, 37), BAD);
        due("sheaf(0, 1, GREATEST)", s.sheaf(0, 1, GREATEST), BAD);
        due("sheaf(0, 0, -1)", s.sheaf(0, 0, -1), -14);
        due("sheaf(3, 1, LEAST)", s.sheaf(3, 1, LEAST), -14);
        due("all(2)", s.all(2), NONE);
        for (int k = 0; k < 4; k++) {
            due("sheaf(" + k + ", 0, 36)", s.sheaf(k, 0, 36), 1);
            due("lay(" + k + ", 35, 1)", s.lay(k, 35, 1), 1);
            due("sheaf(" + k + ", 1, 0)", s.sheaf(k, 1, 0), 1);
            due("lay(" + k + ", 0, 1)", s.lay(k, 0, 1), -12);
        }
        due("sheaf(0, 0, 6)", s.sheaf(0, 0, 6), 1);
        s.lay(0, 4, 3);
        due("sheaf(0, 0, -1)", s.sheaf(0, 0, -1), -14);
        due("sheaf(0, 1, 37)", s.sheaf(0, 1, 37), BAD);
        due("draw(0, 0, 2), the old row", s.draw(0, 0, 2), 2);
        s.body();
        row("corners", corners(s, 0), 0, 0, 0, 0, 3, 0);
        due("sheaf(0, 0, 6)", s.sheaf(0, 0, 6), 1);
        due("draw(0, 0, 2), new cells", s.draw(0, 0, 2), 2);
        s.body();
        row("corners", corners(s, 1), 0, 0, 0);
        due("sheaf(0, 1, 3)", s.sheaf(0, 1, 3), 1);
        due("draw(0, 0, 1)", s.draw(0, 0, 1), -13);
        due("draw(0, 1, 1)", s.draw(0, 1, 1), 1);
    }

    private static void lay() {
        promise = "4";
        SwellBodies s = new SwellBodies();
        for (int k : new int[] {-1, 4, LEAST, GREATEST}) {
            due("lay(" + k + ", 0, 1)", s.lay(k, 0, 1), BAD);
            due("lay(" + k + ", -1, 1)", s.lay(k, -1, 1), BAD);
        }
        due("lay(2, -1, 1)", s.lay(2, -1, 1), -11);
        s.sheaf(2, 0, 3);
        for (int i : new int[] {-1, 3, 36, LEAST, GREATEST}) {
            due("lay(2, " + i + ", 1)", s.lay(2, i, 1), -12);
        }
        due("lay(2, 0, 2^32 + 5)", s.lay(2, 0, (1L << 32) + 5), 1);
        due("lay(2, 1, 5 - 2^32)", s.lay(2, 1, 5 - (1L << 32)), 1);
        due("lay(2, 2, 2^32 - 5)", s.lay(2, 2, (1L << 32) - 5), 1);
        due("draw(2, 0, 1)", s.draw(2, 0, 1), 1);
        s.body();
        row("corners", corners(s, 0), 5, 5, -5);
        s.sheaf(3, 1, 3);
        due("lay(3, 1, 2^32 + 5)", s.lay(3, 1, (1L << 32) + 5), 1);
        due("draw(3, 1, 1)", s.draw(3, 1, 1), BAD);
        due("lay(3, 1, 4)", s.lay(3, 1, 4), 1);
        due("lay(3, 0, -3)", s.lay(3, 0, -3), 1);
        due("draw(3, 1, 1)", s.draw(3, 1, 1), 1);
        s.body();
        row("corners", corners(s, 1), -3, 4, 0);
    }

    private static void draw() {
        promise = "5";
        SwellBodies s = new SwellBodies();
        for (int k : new int[] {-1, 4, LEAST, GREATEST}) {
            due("draw(" + k + ", 0, 0)", s.draw(k, 0, 0), BAD);
        }
        for (int lane : new int[] {-1, 2, LEAST, GREATEST}) {
            due("draw(0, " + lane + ", 0)", s.draw(0, lane, 0), BAD);
        }
        due("draw(0, 0, -1)", s.draw(0, 0, -1), BAD);
        due("draw(0, 0, LEAST)", s.draw(0, 0, LEAST), BAD);
        due("draw(0, 0, 0)", s.draw(0, 0, 0), -11);
        s.sheaf(0, 0, 36);
        due("draw(0, 1, 13)", s.draw(0, 1, 13), -13);
        due("draw(0, 1, -1)", s.draw(0, 1, -1), BAD);
        due("draw(0, 0, 13)", s.draw(0, 0, 13), -12);
        due("draw(0, 0, GREATEST)", s.draw(0, 0, GREATEST), -12);
        due("all(1)", s.all(1), 0);
        due("draw(0, 0, 12)", s.draw(0, 0, 12), 12);
        due("draw(0, 0, 0)", s.draw(0, 0, 0), 12);
        due("draw(0, 0, 1)", s.draw(0, 0, 1), FULL);
        s.clear();
        s.corner(1, 1, 1);
        due("draw(0, 0, GREATEST)", s.draw(0, 0, GREATEST), FULL);
        due("draw(0, 0, 11)", s.draw(0, 0, 11), 12);
        s.clear();
        for (int i = 0; i < 6; i++) {
            s.lay(0, i, i - 2);
        }
        s.corner(-5, 0, 0);
        due("draw(0, 0, 2)", s.draw(0, 0, 2), 3);
        s.body();
        row("corners", corners(s, 0), -5, 0, 0, -2, -1, 0, 1, 2, 3);
    }

    private static void drawFirstMet() {
        SwellBodies s = new SwellBodies();
        s.sheaf(0, 0, 5);
        s.lay(0, 3, 6);
        due("draw, the second point has no last cell", s.draw(0, 0, 2), -12);
        s.lay(0, 1, -6);
        due("draw, the first point is not as told", s.draw(0, 0, 2), BAD);
        due("draw, the same, no place for it", s.draw(0, 0, GREATEST), BAD);
        s.sheaf(1, 1, 9);
        s.lay(1, 8, Long.MIN_VALUE);
        due("draw, the third point is not as told", s.draw(1, 1, 3), BAD);
        due("all(1)", s.all(1), 0);
        for (int i = 0; i < 11; i++) {
            s.corner(1, 1, 1);
        }
        due("draw, full at the second", s.draw(1, 1, 3), FULL);
        s.lay(1, 5, 6);
        due("draw, not as told and full at the second", s.draw(1, 1, 3), BAD);
        s.lay(1, 5, 5);
        due("draw, full at the second, no index at the fourth", s.draw(1, 1, 4), FULL);
        s.sheaf(1, 1, 3);
        due("draw, no index and full at the second", s.draw(1, 1, 2), -12);
        due("all(1)", s.all(1), 11);
        due("draw, one more", s.draw(1, 1, 1), 12);
    }

    private static void clear() {
        promise = "6";
        SwellBodies s = new SwellBodies();
        due("clear()", s.clear(), 0);
        s.corner(1, 2, 3);
        s.corner(1, 2, 3);
        due("clear()", s.clear(), 2);
        due("all(1)", s.all(1), 0);
        due("clear()", s.clear(), 0);
        due("body()", s.body(), STATE);
        due("corner(3, 2, 1)", s.corner(3, 2, 1), 1);
        s.body();
        row("corners", corners(s, 0), 3, 2, 1);
        s.corner(0, 0, 0);
        s.clear();
        due("all(0)", s.all(0), 1);
    }

    private static void body() {
        promise = "7";
        SwellBodies s = new SwellBodies();
        due("body()", s.body(), STATE);
        for (int i = 0; i < 8; i++) {
            s.corner(i - 4, 0, 0);
            due("body()", s.body(), i);
            due("all(1)", s.all(1), 0);
        }
        due("body() of nothing, when all are there", s.body(), STATE);
        s.corner(5, 5, 5);
        due("body() of one more", s.body(), FULL);
        due("all(0)", s.all(0), 8);
        due("all(1), kept", s.all(1), 1);
        s.drop();
        due("body()", s.body(), 7);
        row("corners", corners(s, 7), 5, 5, 5);
        row("corners", corners(s, 0), -4, 0, 0);
        SwellBodies inside = with(0, 0, 0, 4, 0, 0, 0, 4, 0, 0, 0, 4, 1, 1, 1, 2, 2, 0, 2, 0, 0, 1, 1, 0);
        row("corners", corners(inside, 0), 0, 0, 0, 0, 0, 4, 0, 4, 0, 4, 0, 0);
        SwellBodies flat = with(1, 1, 1, 0, 0, 3, 3, 0, 0, 0, 3, 0, 1, 2, 0);
        row("corners", corners(flat, 0), 0, 0, 3, 0, 3, 0, 3, 0, 0);
        SwellBodies inRow = with(1, 2, 3, 0, 0, 0, -1, -2, -3, 0, 0, 0);
        row("corners", corners(inRow, 0), -1, -2, -3, 1, 2, 3);
    }

    private static void drop() {
        promise = "8";
        SwellBodies s = with(0, 0, 0, 2, 0, 0);
        due("count(0, 1)", s.count(0, 1), 3);
        due("rank(0, 2, 1, 0, 0)", s.rank(0, 2, 1, 0, 0), 1);
        due("drop()", s.drop(), 0);
        due("about(0, 1)", s.about(0, 1), BAD);
        due("drop()", s.drop(), NONE);
        due("all(0)", s.all(0), 0);
        due("body again", make(s, 0, 0, 0, 3, 0, 0, 0, 3, 0), 0);
        due("count(0, 1)", s.count(0, 1), 10);
        due("rank(0, 2, 1, 0, 0)", s.rank(0, 2, 1, 0, 0), 7);
        make(s, 1, 1, 1);
        due("drop()", s.drop(), 1);
        due("all(0)", s.all(0), 1);
        due("about(0, 2)", s.about(0, 2), 3);
    }

    private static int kindOf(int... parts) {
        return with(parts).about(0, 0);
    }

    private static void kinds() {
        promise = "9";
        due("kind: nought", kindOf(0, 0, 0), 4);
        due("kind: a point", kindOf(0, 0, 1), 3);
        due("kind: a row about nought", kindOf(0, 2, 0, 0, -2, 0), 4);
        due("kind: a row beside nought", kindOf(1, 2, 0, 1, -2, 0), 3);
        due("kind: a row that is no mirror", kindOf(0, 2, 0, 0, -1, 0), 3);
        due("kind: a slant row", kindOf(1, 1, 0, -1, -1, 0), 2);
        due("kind: an oblong about nought", kindOf(0, 1, 2, 0, -1, 2, 0, 1, -2, 0, -1, -2), 4);
        due("kind: an oblong", kindOf(0, 1, 2, 0, -1, 2, 0, 1, -1, 0, -1, -1), 3);
        due("kind: a triangle", kindOf(0, 0, 0, 1, 0, 0, 0, 1, 0), 2);
        due("kind: a slant square about nought", kindOf(1, 0, 0, -1, 0, 0, 0, 1, 0, 0, -1, 0), 1);
        due("kind: four of one plane", kindOf(0, 0, 0, 3, 0, 0, 0, 1, 0, 1, 1, 0), 1);
        due("kind: a cube", kindOf(UNIT_CUBE), 3);
        due("kind: every other corner of a cube", kindOf(0, 0, 0, 1, 1, 0, 1, 0, 1, 0, 1, 1), 2);
        due("kind: seven corners of a cube", kindOf(java.util.Arrays.copyOf(UNIT_CUBE, 21)), 0);
        due("kind: an octahedron", kindOf(OCTAHEDRON), 0);
        due("kind: a cube about nought", kindOf(-1, -1, -1, 1, -1, -1, -1, 1, -1, 1, 1, -1,
            -1, -1, 1, 1, -1, 1, -1, 1, 1, 1, 1, 1), 4);
        due("kind: a slant brick", kindOf(0, 0, 0, 1, 0, 0, 0, 1, 0, 1, 1, 0,
            1, 0, 1, 2, 0, 1, 1, 1, 1, 2, 1, 1), 0);
        SwellBodies s = with(OCTAHEDRON);
        due("about(0, 1)", s.about(0, 1), 3);
        due("about(0, 2)", s.about(0, 2), 6);
        due("about(0, 3)", s.about(0, 3), 8);
        due("about(0, 4)", s.about(0, 4), 6);
        due("about(0, 5)", s.about(0, 5), BAD);
        due("about(0, -1)", s.about(0, -1), BAD);
        for (int b : NO_BODIES) {
            for (int what = 0; what < 5; what++) {
                due("about(" + b + ", " + what + ")", s.about(b, what), BAD);
            }
        }
        SwellBodies flat = with(0, 0, 0, 1, 0, 2, 0, 1, 2);
        due("fills of a triangle", flat.about(0, 1), 2);
        due("sides of a triangle", flat.about(0, 3), 3);
    }

    private static void madeOf() {
        SwellBodies s = with(0, 0, 0, 0, 0, 0, 2, 2, 2, 1, 1, 1, 2, 2, 2);
        due("made of points given", s.about(0, 4), 5);
        due("corners of these", s.about(0, 2), 2);
        s.move(0, 1, 1, 1);
        due("made of a body moved", s.about(1, 4), 2);
        s.turn(0, 2);
        due("made of a body turned", s.about(2, 4), 2);
        s.join(0, 0);
        due("made of a body twice", s.about(3, 4), 4);
        s.join(0, 2);
        due("made of two", s.about(4, 4), 4);
        due("their corners", s.about(4, 2), 3);
        make(s, 0, 0, 0, 2, 0, 0, 0, 2, 0, 2, 2, 0);
        s.slice(5, 2, 0);
        due("made of a slice's points", s.about(6, 4), 9);
        due("its corners", s.about(6, 2), 4);
    }

    private static void cornerOf() {
        promise = "10";
        SwellBodies s = with(OCTAHEDRON);
        row("corners", corners(s, 0), -1, 0, 0, 0, -1, 0, 0, 0, -1, 0, 0, 1, 0, 1, 0, 1, 0, 0);
        for (int i : new int[] {-1, 6, NONE, LEAST, GREATEST}) {
            due("cornerOf(0, " + i + ", 0)", s.cornerOf(0, i, 0), NO_PART);
        }
        for (int what : new int[] {-1, 3, LEAST, GREATEST}) {
            due("cornerOf(0, 0, " + what + ")", s.cornerOf(0, 0, what), NO_PART);
        }
        for (int b : NO_BODIES) {
            due("cornerOf(" + b + ", 0, 0)", s.cornerOf(b, 0, 0), NO_PART);
        }
        SwellBodies order = with(0, 5, -5, 0, -5, 5, -1, 5, 5, 0, 5, 5);
        row("corners in order", corners(order, 0), -1, 5, 5, 0, -5, 5, 0, 5, -5, 0, 5, 5);
    }

    private static void sides() {
        promise = "11";
        SwellBodies s = with(0, 0, 0, 3, 0, 0, 0, 3, 0, 0, 0, 3, 1, 1, 1);
        row("sides of a wedge", sides(s, 0), -1, 0, 0, 0, 0, -1, 0, 0, 0, 0, -1, 0, 1, 1, 1, 3);
        row("no bond of a wedge", bond(s, 0), NO_PART, NO_PART, NO_PART, NO_PART);
        make(s, 2, 0, 0, 0, 2, 0, 0, 0, 2);
        row("sides of a triangle", sides(s, 1), -2, 1, 1, 2, 1, -2, 1, 2, 1, 1, -2, 2);
        row("bond of a triangle", bond(s, 1), 1, 1, 1, 2);
        make(s, 0, 0, 0, 2, 4, 0, 2, 4, 2, 0, 0, 2);
        row("sides of an oblong", sides(s, 2), -1, -2, 0, 0, 0, 0, -1, 0, 0, 0, 1, 2, 1, 2, 0, 10);
        row("bond of an oblong", bond(s, 2), 2, -1, 0, 0);
        make(s, 5, 0, -1, 5, 2, 2, 5, 4, -2);
        row("bond across x", bond(s, 3), 1, 0, 0, 5);
        make(s, 0, -2, 0, 1, -2, 0, 0, -2, 1);
        row("bond across y", bond(s, 4), 0, 1, 0, -2);
        make(s, 0, 2, 2, 1, -1, -1, -1, 0, 0);
        row("bond whose first number is nought", bond(s, 5), 0, 1, -1, 0);
        make(s, 3, 3, 3, -1, 1, 5);
        row("sides of a row", sides(s, 6), -2, -1, 1, 6, 2, 1, -1, 6);
        row("no bond of a row", bond(s, 6), NO_PART, NO_PART, NO_PART, NO_PART);
        make(s, 1, 1, 1);
        row("sides of a point", sides(s, 7));
        row("no bond of a point", bond(s, 7), NO_PART, NO_PART, NO_PART, NO_PART);
        for (int i : new int[] {-1, -2, -3, -5, 4, LEAST, GREATEST}) {
            due("side(0, " + i + ", 0)", s.side(0, i, 0), NO_PART);
            due("side(1, " + i + ", 0)", s.side(1, i == 4 ? 3 : i, 0), NO_PART);
        }
        for (int what : new int[] {-1, 4, LEAST, GREATEST}) {
            due("side(0, 0, " + what + ")", s.side(0, 0, what), NO_PART);
            due("side(1, NONE, " + what + ")", s.side(1, NONE, what), NO_PART);
        }
        for (int b : new int[] {-1, 8, LEAST, GREATEST}) {
            due("side(" + b + ", 0, 0)", s.side(b, 0, 0), NO_PART);
            due("side(" + b + ", NONE, 0)", s.side(b, NONE, 0), NO_PART);
        }
    }

    private static void on() {
        promise = "12";
        // A pyramid: its floor has four corners, the others three; the middle of the floor is none.
        SwellBodies s = with(0, 0, 0, 2, 0, 0, 0, 2, 0, 2, 2, 0, 1, 1, 2, 1, 1, 0);
        row("sides of a pyramid", sides(s, 0),
            -2, 0, 1, 0, 0, -2, 1, 0, 0, 0, -1, 0, 0, 2, 1, 4, 2, 0, 1, 4);
        long[] want = {3, 3, 4, 3, 3};
        for (int i = 0; i < 5; i++) {
            due("on(0, " + i + ")", s.on(0, i), want[i]);
        }
        make(s, 0, 0, 0, 3, 0, 0, 0, 3, 0);
        due("on a triangle's side", s.on(1, 0), 2);
        make(s, 0, 0, 0, 3, 0, 0);
        due("on a row's end", s.on(2, 1), 1);
        make(s, 0, 0, 0);
        due("on(3, 0), of a point", s.on(3, 0), BAD);
        for (int i : new int[] {-1, NONE, 5, LEAST, GREATEST}) {
            due("on(0, " + i + ")", s.on(0, i), BAD);
        }
        due("on(1, NONE)", s.on(1, NONE), BAD);
        due("on(4, 0)", s.on(4, 0), BAD);
        due("on(-1, 0)", s.on(-1, 0), BAD);
    }

    private static void has() {
        promise = "13";
        SwellBodies s = with(UNIT_CUBE);
        due("has, the middle", s.has(0, 1, 1, 1, 2), 2);
        due("has, a corner", s.has(0, 0, 0, 0, 1), 1);
        due("has, a corner with a share", s.has(0, 1000, 1000, 1000, 1000), 1);
        due("has, just within", s.has(0, 999, 999, 1, 1000), 2);
        due("has, just outside", s.has(0, 1001, 500, 500, 1000), 0);
        due("has, just below", s.has(0, 500, -1, 500, 1000), 0);
        due("has, an edge", s.has(0, 0, 0, 1, 3), 1);
        due("has, a face", s.has(0, 1, 1, 3, 3), 1);
        due("has, far", s.has(0, 100000, -100000, 100000, 1), 0);
        for (int v : new int[] {100001, -100001, LEAST, GREATEST}) {
            due("has(0, v, 0, 0, 1)", s.has(0, v, 0, 0, 1), BAD);
            due("has(0, 0, v, 0, 1)", s.has(0, 0, v, 0, 1), BAD);
            due("has(0, 0, 0, v, 1)", s.has(0, 0, 0, v, 1), BAD);
        }
        for (int q : new int[] {0, -1, 1001, LEAST, GREATEST}) {
            due("has(0, 0, 0, 0, " + q + ")", s.has(0, 0, 0, 0, q), BAD);
        }
        for (int b : NO_BODIES) {
            due("has(" + b + ", 0, 0, 0, 1)", s.has(b, 0, 0, 0, 1), BAD);
        }
    }

    private static void hasFlat() {
        SwellBodies s = with(2, 0, 0, 0, 2, 0, 0, 0, 2);
        due("has, within a triangle", s.has(0, 2, 2, 2, 3), 2);
        due("has, on its edge", s.has(0, 1, 1, 0, 1), 1);
        due("has, in its plane, outside", s.has(0, 3, 0, -1, 1), 0);
        due("has, above its plane", s.has(0, 2, 2, 3, 3), 0);
        due("has, below its plane", s.has(0, 2, 2, 1, 3), 0);
        make(s, -1, -2, 0, 1, 2, 2);
        due("has, within a row", s.has(1, 0, 0, 1, 1), 2);
        due("has, its end", s.has(1, 2, 4, 4, 2), 1);
        due("has, behind its end", s.has(1, 3, 6, 5, 2), 0);
        due("has, before its end", s.has(1, -3, -6, -1, 2), 0);
        due("has, beside it in x", s.has(1, 1, 0, 2, 2), 0);
        due("has, beside it in y", s.has(1, 0, 1, 2, 2), 0);
        due("has, beside it in z", s.has(1, 0, 0, 3, 2), 0);
        make(s, 1, -2, 3);
        due("has, the point", s.has(2, 3, -6, 9, 3), 2);
        due("has, beside the point in x", s.has(2, 4, -6, 9, 3), 0);
        due("has, beside the point in y", s.has(2, 3, -5, 9, 3), 0);
        due("has, beside the point in z", s.has(2, 3, -6, 8, 3), 0);
    }

    private static void countAndInner() {
        SwellBodies s = with(UNIT_CUBE);
        make(s, 0, 1, 0, 3, 1, 0, 0, 1, 3, 3, 1, 3);
        make(s, 1, 1, 1, 5, 3, -1);
        make(s, -5, -4, 5);
        make(s, 5, 5, 5, -5, 5, 5, 5, -5, 5, -5, -5, 5, 5, 5, -5, -5, 5, -5, 5, -5, -5, -5, -5, -5);
        for (int n = 0; n <= 5; n++) {
            promise = "14";
            due("count of a cube, " + n, s.count(0, n), (n + 1) * (n + 1) * (n + 1));
            due("count of a square, " + n, s.count(1, n), (3 * n + 1) * (3 * n + 1));
            due("count of a row, " + n, s.count(2, n), 2 * n + 1);
            due("count of a point, " + n, s.count(3, n), 1);
            due("count of the greatest, " + n, s.count(4, n), (10 * n + 1) * (10 * n + 1) * (10 * n + 1));
            promise = "15";
            due("inner of a cube, " + n, s.inner(0, n), n == 0 ? BAD : (n - 1) * (n - 1) * (n - 1));
            due("inner of a square, " + n, s.inner(1, n), n == 0 ? BAD : (3 * n - 1) * (3 * n - 1));
            due("inner of a row, " + n, s.inner(2, n), n == 0 ? BAD : 2 * n - 1);
            due("inner of a point, " + n, s.inner(3, n), n == 0 ? BAD : 1);
        }
        for (int n : new int[] {-1, 6, LEAST, GREATEST}) {
            promise = "14";
            due("count(0, " + n + ")", s.count(0, n), BAD);
            promise = "15";
            due("inner(0, " + n + ")", s.inner(0, n), BAD);
        }
        for (int b : new int[] {-1, 5, LEAST, GREATEST}) {
            promise = "14";
            due("count(" + b + ", 1)", s.count(b, 1), BAD);
            promise = "15";
            due("inner(" + b + ", 1)", s.inner(b, 1), BAD);
        }
        SwellBodies empty = with(0, 0, 0, 1, 0, 0, 0, 1, 0, 1, 1, 5);
        promise = "14";
        due("count of Reeve's wedge, 1", empty.count(0, 1), 4);
        due("count of Reeve's wedge, 2", empty.count(0, 2), 14);
        promise = "15";
        due("inner of Reeve's wedge, 1", empty.inner(0, 1), 0);
        due("inner of Reeve's wedge, 2", empty.inner(0, 2), 4);
    }

    private static void numberAndRule() {
        SwellBodies s = with(UNIT_CUBE);
        make(s, 0, 1, 0, 3, 1, 0, 0, 1, 3, 3, 1, 3);
        make(s, 1, 1, 1, 5, 3, -1);
        make(s, -5, -4, 5);
        make(s, 0, 0, 0, 1, 0, 0, 0, 1, 0, 1, 1, 5);
        long[][] want = {{6, 18, 18, 6}, {6, 36, 54, 0}, {6, 12, 0, 0}, {6, 0, 0, 0}, {6, 7, 6, 5}};
        for (int b = 0; b < want.length; b++) {
            promise = "16";
            for (int k = 0; k < 4; k++) {
                due("number(" + b + ", " + k + ")", s.number(b, k), want[b][k]);
            }
            promise = "17";
            for (long n : new long[] {-1000, -999, -7, -1, 0, 1, 2, 6, 999, 1000}) {
                long six = want[b][0] + want[b][1] * n + want[b][2] * n * n + want[b][3] * n * n * n;
                due("rule(" + b + ", " + n + ")", s.rule(b, (int) n), six / 6);
            }
        }
        promise = "16";
        for (int k : new int[] {-1, 4, LEAST, GREATEST}) {
            due("number(0, " + k + ")", s.number(0, k), NO_NUMBER);
        }
        promise = "17";
        for (int n : new int[] {-1001, 1001, LEAST, GREATEST}) {
            due("rule(0, " + n + ")", s.rule(0, n), -1);
        }
        for (int b : new int[] {-1, 5, LEAST, GREATEST}) {
            promise = "16";
            due("number(" + b + ", 0)", s.number(b, 0), NO_NUMBER);
            promise = "17";
            due("rule(" + b + ", 0)", s.rule(b, 0), -1);
        }
    }

    private static long[] stairsOf(SwellBodies s, int b) {
        long[] found = new long[Math.max(0, s.about(b, 1) + 1)];
        for (int i = 0; i < found.length; i++) {
            found[i] = s.stairs(b, i);
        }
        return found;
    }

    private static void stairs() {
        promise = "18";
        SwellBodies s = with(UNIT_CUBE);
        row("stairs of a cube", stairsOf(s, 0), 1, 4, 1, 0);
        make(s, 0, 1, 0, 3, 1, 0, 0, 1, 3, 3, 1, 3);
        row("stairs of a square", stairsOf(s, 1), 1, 13, 4);
        make(s, 1, 1, 1, 5, 3, -1);
        row("stairs of a row", stairsOf(s, 2), 1, 1);
        make(s, -5, -4, 5);
        row("stairs of a point", stairsOf(s, 3), 1);
        make(s, OCTAHEDRON);
        row("stairs of an octahedron", stairsOf(s, 4), 1, 3, 3, 1);
        due("stairs(0, 4)", s.stairs(0, 4), BAD);
        due("stairs(1, 3)", s.stairs(1, 3), BAD);
        due("stairs(2, 2)", s.stairs(2, 2), BAD);
        due("stairs(3, 1)", s.stairs(3, 1), BAD);
        for (int v : new int[] {-1, LEAST, GREATEST}) {
            due("stairs(0, " + v + ")", s.stairs(0, v), BAD);
            due("stairs(" + v + ", 0)", s.stairs(v, 0), BAD);
        }
        due("stairs(5, 0)", s.stairs(5, 0), BAD);
    }

    private static void point() {
        promise = "19";
        SwellBodies s = with(UNIT_CUBE);
        for (int i = 0; i < 216; i++) {
            // An object bears 512 calls.
            s = i % 100 == 0 ? with(UNIT_CUBE) : s;
            due("point(0, 5, " + i + ", 0)", s.point(0, 5, i, 0), i / 36);
            due("point(0, 5, " + i + ", 1)", s.point(0, 5, i, 1), i / 6 % 6);
            due("point(0, 5, " + i + ", 2)", s.point(0, 5, i, 2), i % 6);
        }
        for (int i : new int[] {-1, 216, LEAST, GREATEST}) {
            due("point(0, 5, " + i + ", 0)", s.point(0, 5, i, 0), NO_POINT);
        }
        for (int n : new int[] {-1, 0, 6, LEAST, GREATEST}) {
            due("point(0, " + n + ", 0, 0)", s.point(0, n, 0, 0), NO_POINT);
        }
        for (int what : new int[] {-1, 3, LEAST, GREATEST}) {
            due("point(0, 1, 0, " + what + ")", s.point(0, 1, 0, what), NO_POINT);
        }
        for (int b : NO_BODIES) {
            due("point(" + b + ", 1, 0, 0)", s.point(b, 1, 0, 0), NO_POINT);
        }
        make(s, -1, 2, 3, 1, -2, 5);
        for (int i = 0; i < 5; i++) {
            due("point of a row, x", s.point(1, 2, i, 0), i - 2);
            due("point of a row, y", s.point(1, 2, i, 1), 4 - 2 * i);
            due("point of a row, z", s.point(1, 2, i, 2), i + 6);
        }
        due("point of a row, no more", s.point(1, 2, 5, 0), NO_POINT);
        make(s, 3, 2, -1);
        due("point of a point", s.point(2, 5, 0, 2), -5);
        due("point of a point, no more", s.point(2, 5, 1, 2), NO_POINT);
    }

    private static void rank() {
        promise = "20";
        SwellBodies s = with(OCTAHEDRON);
        int next = 0;
        for (int x = -3; x <= 3; x++) {
            for (int y = -3; y <= 3; y++) {
                for (int z = -3; z <= 3; z++) {
                    boolean in = Math.abs(x) + Math.abs(y) + Math.abs(z) <= 2;
                    due("rank(0, 2, " + x + ", " + y + ", " + z + ")", s.rank(0, 2, x, y, z), in ? next : NONE);
                    next += in ? 1 : 0;
                }
            }
        }
        for (int v : new int[] {-6, 6, LEAST, GREATEST}) {
            due("rank(0, 5, v, 0, 0)", s.rank(0, 5, v, 0, 0), NONE);
            due("rank(0, 5, 0, v, 0)", s.rank(0, 5, 0, v, 0), NONE);
            due("rank(0, 5, 0, 0, v)", s.rank(0, 5, 0, 0, v), NONE);
        }
        due("rank(0, 5, 5, 0, 0)", s.rank(0, 5, 5, 0, 0), 230);
        for (int n : new int[] {-1, 0, 6, LEAST, GREATEST}) {
            due("rank(0, " + n + ", 0, 0, 0)", s.rank(0, n, 0, 0, 0), BAD);
        }
        for (int b : NO_BODIES) {
            due("rank(" + b + ", 1, 0, 0, 0)", s.rank(b, 1, 0, 0, 0), BAD);
        }
        make(s, 5, 5, 5, 5, 5, 4);
        due("rank(1, 5, 25, 25, 25)", s.rank(1, 5, 25, 25, 25), 5);
        // Twice the least int wraps round to nought, and this pyramid's sides have an even a and b.
        make(s, 0, 0, 0, 2, 0, 0, 0, 2, 0, 2, 2, 0, 1, 1, 2);
        due("rank(2, 1, 1, 0, 0)", s.rank(2, 1, 1, 0, 0), 3);
        due("rank(2, 1, 1, LEAST, 0)", s.rank(2, 1, 1, LEAST, 0), NONE);
        due("rank(2, 1, LEAST, 1, 0)", s.rank(2, 1, LEAST, 1, 0), NONE);
    }

    private static void move() {
        promise = "21";
        SwellBodies s = with(-5, 0, 1, -4, 5, 1, -5, 1, 2);
        due("move(0, 9, -5, 3)", s.move(0, 9, -5, 3), 1);
        row("corners", corners(s, 1), 4, -5, 4, 4, -4, 5, 5, 0, 4);
        row("corners of the old one", corners(s, 0), -5, 0, 1, -5, 1, 2, -4, 5, 1);
        due("move(0, 10, 0, 0)", s.move(0, 10, 0, 0), BAD);
        due("move(0, -1, 0, 0)", s.move(0, -1, 0, 0), BAD);
        due("move(0, 0, 1, 0)", s.move(0, 0, 1, 0), BAD);
        due("move(0, 0, -6, 0)", s.move(0, 0, -6, 0), BAD);
        due("move(0, 0, 0, 4)", s.move(0, 0, 0, 4), BAD);
        due("move(0, 0, 0, -7)", s.move(0, 0, 0, -7), BAD);
        for (int v : new int[] {LEAST, GREATEST}) {
            due("move(0, v, 0, 0)", s.move(0, v, 0, 0), BAD);
            due("move(0, 0, v, 0)", s.move(0, 0, v, 0), BAD);
            due("move(0, 0, 0, v)", s.move(0, 0, 0, v), BAD);
            due("move(v, 0, 0, 0)", s.move(v, 0, 0, 0), BAD);
        }
        due("all(0)", s.all(0), 2);
        s.corner(2, 2, 2);
        for (int i = 2; i < 8; i++) {
            due("move(0, 0, 0, 0)", s.move(0, 0, 0, 0), i);
        }
        due("move(0, 0, 0, 0)", s.move(0, 0, 0, 0), FULL);
        due("move(0, 10, 0, 0)", s.move(0, 10, 0, 0), BAD);
        due("move(8, 0, 0, 0)", s.move(8, 0, 0, 0), BAD);
        due("all(0)", s.all(0), 8);
        due("all(1), left alone", s.all(1), 1);
    }

    private static void turn() {
        promise = "22";
        SwellBodies s = with(1, 2, 3);
        long[][] want = {{2, 1, 3}, {1, 3, 2}, {-1, 2, 3}, {3, 2, 3}, {1, 2, 2}};
        for (int way = 0; way < 5; way++) {
            due("turn(0, " + way + ")", s.turn(0, way), way + 1);
            row("corners of way " + way, corners(s, way + 1), want[way]);
        }
        for (int way : new int[] {-1, 5, LEAST, GREATEST}) {
            due("turn(0, " + way + ")", s.turn(0, way), BAD);
        }
        make(s, 3, 3, 0, -3, 0, 3);
        due("turn(6, 3), too far", s.turn(6, 3), BAD);
        due("turn(6, 4), too far", s.turn(6, 4), BAD);
        due("all(0)", s.all(0), 7);
        due("turn(6, 2)", s.turn(6, 2), 7);
        row("corners in order again", corners(s, 7), -3, 3, 0, 3, 0, 3);
        due("turn(0, 0)", s.turn(0, 0), FULL);
        due("turn(6, 3), too far", s.turn(6, 3), BAD);
        due("turn(0, 5)", s.turn(0, 5), BAD);
        due("turn(8, 0)", s.turn(8, 0), BAD);
        due("turn(-1, 0)", s.turn(-1, 0), BAD);
    }

    private static void join() {
        promise = "23";
        SwellBodies s = with(0, 0, 0, 2, 2, 0);
        make(s, 0, 2, 0, 2, 0, 0);
        due("join(0, 1)", s.join(0, 1), 2);
        row("corners", corners(s, 2), 0, 0, 0, 0, 2, 0, 2, 0, 0, 2, 2, 0);
        make(s, 1, 1, 4);
        due("join(3, 2)", s.join(3, 2), 4);
        due("fills", s.about(4, 1), 3);
        due("join(3, 3)", s.join(3, 3), 5);
        row("corners", corners(s, 5), 1, 1, 4);
        for (int b : new int[] {-1, 6, LEAST, GREATEST}) {
            due("join(0, " + b + ")", s.join(0, b), BAD);
            due("join(" + b + ", 0)", s.join(b, 0), BAD);
        }
        due("join(0, 0)", s.join(0, 0), 6);
        due("join(0, 0)", s.join(0, 0), 7);
        due("join(0, 0)", s.join(0, 0), FULL);
        due("join(0, 8)", s.join(0, 8), BAD);
        joinMany();
    }

    /** A body of twenty corners, once with itself and once with one corner more. */
    private static void joinMany() {
        SwellBodies s = with(-3, -1, 1, -3, 1, 1, 3, -1, 1, 3, 1, 1, -1, 3, 1, -1, -3, 1, 1, 3, 1, 1, -3, 1,
            -5, 0, 0, 5, 0, 0, 0, -5, 0, 0, 5, 0);
        due("about(0, 2)", s.about(0, 2), 12);
        make(s, -3, -1, -1, -3, 1, -1, 3, -1, -1, 3, 1, -1, -1, 3, -1, -1, -3, -1, 1, 3, -1, 1, -3, -1);
        due("join(0, 1)", s.join(0, 1), 2);
        due("about(2, 2)", s.about(2, 2), 20);
        due("join(2, 2), forty", s.join(2, 2), 3);
        due("about(3, 4)", s.about(3, 4), 40);
        due("about(3, 2)", s.about(3, 2), 20);
        make(s, 0, 0, 2);
        due("join(2, 4)", s.join(2, 4), 5);
        due("about(5, 2)", s.about(5, 2), 21);
        due("join(5, 2), forty-one", s.join(5, 2), FULL);
        due("join(2, 5), forty-one", s.join(2, 5), FULL);
        due("all(0)", s.all(0), 6);
    }

    private static void slice() {
        promise = "24";
        SwellBodies s = with(0, 0, 0, 3, 0, 0, 0, 3, 0, 0, 0, 3);
        due("slice(0, 0, 1)", s.slice(0, 0, 1), 1);
        row("corners", corners(s, 1), 1, 0, 0, 1, 0, 2, 1, 2, 0);
        due("slice(0, 1, 2)", s.slice(0, 1, 2), 2);
        row("corners", corners(s, 2), 0, 2, 0, 0, 2, 1, 1, 2, 0);
        due("slice(0, 2, 3)", s.slice(0, 2, 3), 3);
        row("corners", corners(s, 3), 0, 0, 3);
        due("made of", s.about(1, 4), 6);
        for (int v : new int[] {-1, 4, LEAST, GREATEST}) {
            for (int way = 0; way < 3; way++) {
                due("slice(0, " + way + ", " + v + ")", s.slice(0, way, v), NONE);
            }
        }
        for (int way : new int[] {-1, 3, LEAST, GREATEST}) {
            due("slice(0, " + way + ", 0)", s.slice(0, way, 0), BAD);
        }
        for (int b : new int[] {-1, 4, LEAST, GREATEST}) {
            due("slice(" + b + ", 0, 0)", s.slice(b, 0, 0), BAD);
        }
        make(s, 0, 0, 0, 2, 1, 0);
        due("slice between whole points", s.slice(4, 0, 1), NONE);
        // The cut at z = 1 has corners with fractions; the body is between its whole points alone.
        make(s, 0, 0, 0, 5, 0, 0, 0, 5, 0, 0, 0, 2);
        due("slice(5, 2, 1)", s.slice(5, 2, 1), 6);
        row("corners", corners(s, 6), 0, 0, 1, 0, 2, 1, 2, 0, 1);
        due("slice(5, 2, 0)", s.slice(5, 2, 0), 7);
        due("made of", s.about(7, 4), 21);
        due("slice(5, 2, 3), none such", s.slice(5, 2, 3), NONE);
        due("slice(5, 2, 0), no place", s.slice(5, 2, 0), FULL);
        due("slice(8, 2, 0)", s.slice(8, 2, 0), BAD);
        due("all(0)", s.all(0), 8);
        SwellBodies wide = with(5, 5, 5, -5, 5, 5, 5, -5, 5, -5, -5, 5, 5, 5, -5, -5, 5, -5, 5, -5, -5, -5, -5, -5);
        for (int way = 0; way < 3; way++) {
            due("slice(0, " + way + ", 5)", wide.slice(0, way, 5), way + 1);
            due("made of", wide.about(way + 1, 4), 121);
            due("corners", wide.about(way + 1, 2), 4);
        }
    }

    private static void within() {
        promise = "25";
        SwellBodies s = with(0, 0, 0, 3, 0, 0, 0, 3, 0, 0, 0, 3);
        make(s, 1, 1, 1);
        make(s, 0, 0, 0, 1, 1, 1);
        make(s, 1, 1, 0, 2, 2, 0);
        due("within(0, 0)", s.within(0, 0), 1);
        due("within(1, 0), on the skin", s.within(1, 0), 1);
        due("within(0, 1)", s.within(0, 1), 0);
        due("within(2, 0)", s.within(2, 0), 1);
        due("within(1, 2)", s.within(1, 2), 1);
        due("within(2, 1)", s.within(2, 1), 0);
        due("within(3, 0), half", s.within(3, 0), 0);
        for (int b : new int[] {-1, 4, LEAST, GREATEST}) {
            due("within(0, " + b + ")", s.within(0, b), BAD);
            due("within(" + b + ", 0)", s.within(b, 0), BAD);
        }
    }

    private static void same() {
        promise = "26";
        SwellBodies s = with(0, 0, 0, 2, 0, 0, 0, 2, 1);
        make(s, 0, 2, 1, 2, 0, 0, 0, 0, 0, 0, 1, 0, 0, 0, 0);
        make(s, 0, 2, 1, 2, 0, 0, 0, 0, 0, 1, 1, 0);
        make(s, 1, 1, 1, 3, 1, 1, 1, 3, 2);
        make(s, 0, 0, 0, 2, 0, 0, 0, 2, 2);
        make(s, 0, 0, 0, 2, 0, 0);
        make(s, 0, 0, 0, 2, 0, 0, 0, 3, 1);
        make(s, 0, 0, 0, 1, 0, 0, 0, 2, 1);
        long[] want = {2, 0, 0, 1, 0, 0, 0, 0};
        for (int b = 0; b < 8; b++) {
            due("same(0, " + b + ")", s.same(0, b), want[b]);
            due("same(" + b + ", 0)", s.same(b, 0), want[b]);
            due("same(" + b + ", " + b + ")", s.same(b, b), 2);
        }
        for (int b : new int[] {-1, 8, LEAST, GREATEST}) {
            due("same(0, " + b + ")", s.same(0, b), BAD);
            due("same(" + b + ", 0)", s.same(b, 0), BAD);
        }
        SwellBodies again = with(0, 0, 0, 2, 0, 0, 0, 2, 0, 1, 0, 0);
        make(again, 2, 0, 0, 0, 2, 0, 0, 0, 0);
        due("same, of other points", again.same(0, 1), 2);
        for (int way = 0; way < 3; way++) {
            again.move(0, way == 0 ? 1 : 0, way == 1 ? -1 : 0, way == 2 ? 1 : 0);
            due("same, moved one way", again.same(0, 2 + way), 1);
        }
    }

    private static void most() {
        promise = "27";
        SwellBodies s = with(-5, 1, 2, 4, -3, 1, 0, 0, 5);
        due("most x", s.most(0, 1, 0, 0, true), 4);
        due("least x", s.most(0, 1, 0, 0, false), -5);
        due("most y", s.most(0, 0, 1, 0, true), 1);
        due("least y", s.most(0, 0, 1, 0, false), -3);
        due("most z", s.most(0, 0, 0, 1, true), 5);
        due("least z", s.most(0, 0, 0, 1, false), 1);
        due("most of nought", s.most(0, 0, 0, 0, true), 0);
        due("most, all at their ends", s.most(0, 100, -100, 100, true), 800);
        due("least, all at their ends", s.most(0, 100, -100, 100, false), -400);
        due("most, all below", s.most(0, -100, -100, -100, true), 200);
        for (int v : new int[] {-101, 101, LEAST, GREATEST}) {
            due("most(0, v, 0, 0, true)", s.most(0, v, 0, 0, true), NO_NUMBER);
            due("most(0, 0, v, 0, false)", s.most(0, 0, v, 0, false), NO_NUMBER);
            due("most(0, 0, 0, v, true)", s.most(0, 0, 0, v, true), NO_NUMBER);
        }
        for (int b : NO_BODIES) {
            due("most(" + b + ", 1, 1, 1, true)", s.most(b, 1, 1, 1, true), NO_NUMBER);
        }
    }

    private static void all() {
        promise = "28";
        SwellBodies s = new SwellBodies();
        due("all(2)", s.all(2), NONE);
        s.sheaf(1, 0, 5);
        due("all(2), of another", s.all(2), NONE);
        s.sheaf(0, 1, 0);
        due("all(2), empty", s.all(2), 0);
        s.sheaf(0, 0, 36);
        due("all(2)", s.all(2), 36);
        s.corner(0, 0, 0);
        s.corner(0, 0, 0);
        due("all(1)", s.all(1), 2);
        s.body();
        s.move(0, 1, 1, 1);
        due("all(0)", s.all(0), 2);
        due("all(1)", s.all(1), 0);
        for (int what : new int[] {-1, 3, LEAST, GREATEST}) {
            due("all(" + what + ")", s.all(what), BAD);
        }
    }

    /** The dearest calls as often as an object is promised to bear them. */
    private static void manyCalls() {
        promise = "an object's 512 calls";
        SwellBodies s = with(5, 5, 5, -5, 5, 5, 5, -5, 5, -5, -5, 5, 5, 5, -5, -5, 5, -5, 5, -5, -5, -5, -5, -5);
        for (int i = 0; i < 125; i++) {
            due("move", s.move(0, 0, 0, 0), 1);
            due("rank", s.rank(1, 5, 25, 25, 25), 132650);
            due("count", s.count(1, 5), 132651);
            due("drop", s.drop(), 1);
        }
    }
}

/** Bodies between corners of whole numbers, and how they grow as they swell; the promises stand in DOC.md. */
public final class SwellBodies {
    public static final int BAD = -1, STATE = -2, FULL = -3, NONE = -4;

    private static final int REACH = 5;
    private static final int MOST_BODIES = 8;
    private static final int MOST_DRAFT = 12;
    private static final int MOST_SHEAVES = 4;
    private static final int MOST_CELLS = 36;
    private static final int MOST_JOINED = 40;
    private static final int MOST_SWELLING = 5;
    private static final int MOST_RULE = 1000;
    private static final int MOST_SHARE = 1000;
    private static final int MOST_PART = 100000;
    private static final int MOST_WEIGHT = 100;
    // What most() weighs is never below this.
    private static final int LEAST_WEIGHED = -3 * REACH * MOST_WEIGHT;

    // The widest slice is a square of 11 times 11 whole points.
    private static final int MOST_POINTS = 121;
    // A body of 40 corners has 76 sides at most (Euler).
    private static final int MOST_SIDES = 80;
    private static final int MOST_BONDS = 3;

    private static final int INTS = 0, LONGS = 1, NOTHING = -1;
    private static final int NULL_FAULT = -11, INDEX_FAULT = -12, CAST_FAULT = -13, SIZE_FAULT = -14;
    private static final int NO_PART = 1000, NO_POINT = 10000, NO_NUMBER = -1000000;
    private static final int MIRROR = 4, BRICK = 3, WEDGE = 2, FLAT = 1, PLAIN = 0;

    private final Points draft = new Points(MOST_DRAFT);
    private final Sheaf[] sheaves = new Sheaf[MOST_SHEAVES];
    private final Body[] bodies = new Body[MOST_BODIES];
    private final Maker maker = new Maker();
    private int bodyCount;

    public SwellBodies() {
        for (int k = 0; k < MOST_SHEAVES; k++) {
            sheaves[k] = new Sheaf();
        }
    }

    public int corner(int x, int y, int z) {
        if (!inReach(x, y, z)) {
            return BAD;
        }
        if (draft.size >= MOST_DRAFT) {
            return FULL;
        }
        draft.put(x, y, z);
        return draft.size;
    }

    public int sheaf(int k, int lane, int n) {
        if (!isSheaf(k) || !isLane(lane) || n > MOST_CELLS) {
            return BAD;
        }
        if (n < 0) {
            return SIZE_FAULT;
        }
        sheaves[k].renew(lane, n);
        return 1;
    }

    public int lay(int k, int i, long v) {
        if (!isSheaf(k)) {
            return BAD;
        }
        Sheaf row = sheaves[k];
        if (row.lane == NOTHING) {
            return NULL_FAULT;
        }
        if (i < 0 || i >= row.size) {
            return INDEX_FAULT;
        }
        row.put(i, v);
        return 1;
    }

    public int draw(int k, int lane, int n) {
        if (!isSheaf(k) || !isLane(lane) || n < 0) {
            return BAD;
        }
        Sheaf row = sheaves[k];
        if (row.lane == NOTHING) {
            return NULL_FAULT;
        }
        if (row.lane != lane) {
            return CAST_FAULT;
        }
        // All are looked at before the first one comes, so that a refusal leaves the draft as it was.
        for (int i = 0; i < n; i++) {
            int refusal = refusalOf(row, i);
            if (refusal != 0) {
                return refusal;
            }
        }
        for (int i = 0; i < n; i++) {
            draft.put((int) row.cell(3 * i), (int) row.cell(3 * i + 1), (int) row.cell(3 * i + 2));
        }
        return draft.size;
    }

    /** Why point i of a sheaf can't come after the i before it; 0: it can. */
    private int refusalOf(Sheaf row, int i) {
        // The division keeps 3 * i from wrapping round.
        if (i >= row.size / 3) {
            return INDEX_FAULT;
        }
        if (!inReach(row.cell(3 * i), row.cell(3 * i + 1), row.cell(3 * i + 2))) {
            return BAD;
        }
        return draft.size + i >= MOST_DRAFT ? FULL : 0;
    }

    public int clear() {
        int had = draft.size;
        draft.size = 0;
        return had;
    }

    public int body() {
        if (draft.size == 0) {
            return STATE;
        }
        if (bodyCount >= MOST_BODIES) {
            return FULL;
        }
        maker.begin();
        maker.takeAll(draft);
        draft.size = 0;
        return keepMade();
    }

    public int drop() {
        if (bodyCount == 0) {
            return NONE;
        }
        bodyCount--;
        bodies[bodyCount] = null;
        return bodyCount;
    }

    public int about(int b, int what) {
        Body of = find(b);
        if (of == null) {
            return BAD;
        }
        switch (what) {
            case 0: return of.kind();
            case 1: return of.fills;
            case 2: return of.corners.size;
            case 3: return of.sides.size;
            case 4: return of.madeOf;
            default: return BAD;
        }
    }

    public int cornerOf(int b, int i, int what) {
        Body of = find(b);
        if (of == null || i < 0 || i >= of.corners.size || !isWay(what)) {
            return NO_PART;
        }
        return of.corners.part(i, what);
    }

    public int side(int b, int i, int what) {
        Body of = find(b);
        if (of == null || what < 0 || what > 3) {
            return NO_PART;
        }
        if (i == NONE) {
            return of.fills == 2 ? of.bonds.part(0, what) : NO_PART;
        }
        return i >= 0 && i < of.sides.size ? of.sides.part(i, what) : NO_PART;
    }

    public int on(int b, int i) {
        Body of = find(b);
        if (of == null || i < 0 || i >= of.sides.size) {
            return BAD;
        }
        return of.cornersOn(i);
    }

    public int has(int b, int x, int y, int z, int q) {
        Body of = find(b);
        if (of == null || q < 1 || q > MOST_SHARE) {
            return BAD;
        }
        if (!isAmong(x, MOST_PART) || !isAmong(y, MOST_PART) || !isAmong(z, MOST_PART)) {
            return BAD;
        }
        return of.placeOf(x, y, z, q);
    }

    public int count(int b, int n) {
        Body of = find(b);
        if (of == null || n < 0 || n > MOST_SWELLING) {
            return BAD;
        }
        return (int) of.growth().at(n);
    }

    public int inner(int b, int n) {
        Body of = find(b);
        if (of == null || !isSwelling(n)) {
            return BAD;
        }
        // Ehrhart and Macdonald: the rule at -n counts what lies within, with the sign of the directions filled.
        int turned = (int) of.growth().at(-n);
        return of.fills % 2 == 0 ? turned : -turned;
    }

    public int number(int b, int k) {
        Body of = find(b);
        if (of == null || k < 0 || k > 3) {
            return NO_NUMBER;
        }
        return of.growth().numbers[k];
    }

    public long rule(int b, int n) {
        Body of = find(b);
        if (of == null || !isAmong(n, MOST_RULE)) {
            return BAD;
        }
        return of.growth().at(n);
    }

    public int stairs(int b, int i) {
        Body of = find(b);
        if (of == null || i < 0 || i > of.fills) {
            return BAD;
        }
        return of.growth().stair(i);
    }

    public int point(int b, int n, int i, int what) {
        Body of = find(b);
        if (of == null || !isSwelling(n) || !isWay(what)) {
            return NO_POINT;
        }
        return of.swelling(n).pointPart(i, what);
    }

    public int rank(int b, int n, int x, int y, int z) {
        Body of = find(b);
        if (of == null || !isSwelling(n)) {
            return BAD;
        }
        return of.swelling(n).rankOf(x, y, z);
    }

    public int move(int b, int x, int y, int z) {
        Body of = find(b);
        if (of == null) {
            return BAD;
        }
        maker.begin();
        for (int i = 0; i < of.corners.size; i++) {
            long movedX = (long) of.corners.x[i] + x;
            long movedY = (long) of.corners.y[i] + y;
            long movedZ = (long) of.corners.z[i] + z;
            if (!takeInReach(movedX, movedY, movedZ)) {
                return BAD;
            }
        }
        return keepMade();
    }

    public int turn(int b, int way) {
        Body of = find(b);
        if (of == null || way < 0 || way > 4) {
            return BAD;
        }
        maker.begin();
        for (int i = 0; i < of.corners.size; i++) {
            if (!takeTurned(of.corners.x[i], of.corners.y[i], of.corners.z[i], way)) {
                return BAD;
            }
        }
        return keepMade();
    }

    private boolean takeTurned(int x, int y, int z, int way) {
        switch (way) {
            case 0: return takeInReach(y, x, z);
            case 1: return takeInReach(x, z, y);
            case 2: return takeInReach(-x, y, z);
            case 3: return takeInReach(x + y, y, z);
            case 4: return takeInReach(x, y, z - x);
            default: return false;
        }
    }

    public int join(int a, int b) {
        Body one = find(a);
        Body other = find(b);
        if (one == null || other == null) {
            return BAD;
        }
        if (one.corners.size + other.corners.size > MOST_JOINED) {
            return FULL;
        }
        maker.begin();
        maker.takeAll(one.corners);
        maker.takeAll(other.corners);
        return keepMade();
    }

    public int slice(int b, int way, int v) {
        Body of = find(b);
        if (of == null || !isWay(way)) {
            return BAD;
        }
        maker.begin();
        of.swelling(1).gather(maker.points, way, v);
        if (maker.points.size == 0) {
            return NONE;
        }
        return keepMade();
    }

    public int within(int a, int b) {
        Body one = find(a);
        Body other = find(b);
        if (one == null || other == null) {
            return BAD;
        }
        return other.holds(one.corners) ? 1 : 0;
    }

    public int same(int a, int b) {
        Body one = find(a);
        Body other = find(b);
        if (one == null || other == null) {
            return BAD;
        }
        // Moving keeps the order of the corners, so that each can be held against its own like.
        if (!one.corners.isMoved(other.corners)) {
            return 0;
        }
        return one.corners.compare(0, other.corners, 0) == 0 ? 2 : 1;
    }

    public int most(int body, int a, int b, int c, boolean high) {
        Body of = find(body);
        if (of == null) {
            return NO_NUMBER;
        }
        if (!isAmong(a, MOST_WEIGHT) || !isAmong(b, MOST_WEIGHT) || !isAmong(c, MOST_WEIGHT)) {
            return NO_NUMBER;
        }
        return high ? of.greatestOf(a, b, c) : -of.greatestOf(-a, -b, -c);
    }

    public int all(int what) {
        switch (what) {
            case 0: return bodyCount;
            case 1: return draft.size;
            case 2: return sheaves[0].lane == NOTHING ? NONE : sheaves[0].size;
            default: return BAD;
        }
    }

    private Body find(int b) {
        return b >= 0 && b < bodyCount ? bodies[b] : null;
    }

    /** What the maker has taken becomes the latest body. */
    private int keepMade() {
        if (bodyCount >= MOST_BODIES) {
            return FULL;
        }
        bodies[bodyCount] = maker.make();
        bodyCount++;
        return bodyCount - 1;
    }

    private boolean takeInReach(long x, long y, long z) {
        if (!inReach(x, y, z)) {
            return false;
        }
        maker.points.put((int) x, (int) y, (int) z);
        return true;
    }

    private static boolean inReach(long x, long y, long z) {
        return isAmong(x, REACH) && isAmong(y, REACH) && isAmong(z, REACH);
    }

    private static boolean isAmong(long v, int most) {
        return v >= -most && v <= most;
    }

    private static boolean isSheaf(int k) {
        return k >= 0 && k < MOST_SHEAVES;
    }

    private static boolean isLane(int lane) {
        return lane == INTS || lane == LONGS;
    }

    private static boolean isWay(int way) {
        return way >= 0 && way <= 2;
    }

    private static boolean isSwelling(int n) {
        return n >= 1 && n <= MOST_SWELLING;
    }

    /** A row of cells that says which lane it is of. */
    private static final class Sheaf {
        final long[] cells = new long[MOST_CELLS];
        int lane = NOTHING;
        int size;

        void renew(int newLane, int newSize) {
            lane = newLane;
            size = newSize;
            for (int i = 0; i < MOST_CELLS; i++) {
                cells[i] = 0;
            }
        }

        void put(int i, long v) {
            if (i >= 0 && i < size) {
                cells[i] = lane == INTS ? (int) v : v;
            }
        }

        long cell(int i) {
            return i >= 0 && i < size ? cells[i] : 0;
        }
    }

    /** Points one after the other; they are in order once they are sorted. */
    private static final class Points {
        final int[] x;
        final int[] y;
        final int[] z;
        int size;

        Points(int room) {
            int length = Math.max(room, 0);
            x = new int[length];
            y = new int[length];
            z = new int[length];
        }

        Points trimmed() {
            Points copy = new Points(size);
            System.arraycopy(x, 0, copy.x, 0, size);
            System.arraycopy(y, 0, copy.y, 0, size);
            System.arraycopy(z, 0, copy.z, 0, size);
            copy.size = size;
            return copy;
        }

        void put(int px, int py, int pz) {
            if (size < x.length) {
                x[size] = px;
                y[size] = py;
                z[size] = pz;
                size++;
            }
        }

        int part(int i, int way) {
            if (i < 0 || i >= size) {
                return NO_PART;
            }
            switch (way) {
                case 0: return x[i];
                case 1: return y[i];
                default: return z[i];
            }
        }

        /** Below 0: point i comes before point j of others. */
        int compare(int i, Points others, int j) {
            if (x[i] != others.x[j]) {
                return x[i] - others.x[j];
            }
            if (y[i] != others.y[j]) {
                return y[i] - others.y[j];
            }
            return z[i] - others.z[j];
        }

        void sort() {
            for (int i = 1; i < size; i++) {
                for (int j = i; j > 0 && compare(j - 1, this, j) > 0; j--) {
                    swap(j - 1, j);
                }
            }
        }

        private void swap(int i, int j) {
            int heldX = x[i];
            int heldY = y[i];
            int heldZ = z[i];
            copy(j, i);
            x[j] = heldX;
            y[j] = heldY;
            z[j] = heldZ;
        }

        void copy(int from, int to) {
            x[to] = x[from];
            y[to] = y[from];
            z[to] = z[from];
        }

        /** Of sorted points, leaves out what is there twice and what lies between its neighbours: no corners. */
        void thin() {
            int kept = 0;
            for (int i = 0; i < size; i++) {
                if (kept > 0 && compare(kept - 1, this, i) == 0) {
                    continue;
                }
                if (kept > 1 && inRow(kept - 2, kept - 1, i)) {
                    kept--;
                }
                copy(i, kept);
                kept++;
            }
            size = kept;
        }

        private boolean inRow(int i, int j, int k) {
            int ux = x[j] - x[i];
            int uy = y[j] - y[i];
            int uz = z[j] - z[i];
            int vx = x[k] - x[i];
            int vy = y[k] - y[i];
            int vz = z[k] - z[i];
            return uy * vz == uz * vy && uz * vx == ux * vz && ux * vy == uy * vx;
        }

        /** Whether one and the same step leads from each of these points to its like among others. */
        boolean isMoved(Points others) {
            if (size != others.size || size == 0) {
                return false;
            }
            for (int i = 1; i < size; i++) {
                if (x[i] - others.x[i] != x[0] - others.x[0]
                        || y[i] - others.y[i] != y[0] - others.y[0]
                        || z[i] - others.z[i] != z[0] - others.z[0]) {
                    return false;
                }
            }
            return true;
        }
    }

    /** Conditions a x + b y + c z with e beside each: as sides "at most e", as bonds "is e". */
    private static final class Conditions {
        final int[] a;
        final int[] b;
        final int[] c;
        final int[] e;
        int size;

        Conditions(int room) {
            int length = Math.max(room, 0);
            a = new int[length];
            b = new int[length];
            c = new int[length];
            e = new int[length];
        }

        Conditions trimmed() {
            Conditions copy = new Conditions(size);
            System.arraycopy(a, 0, copy.a, 0, size);
            System.arraycopy(b, 0, copy.b, 0, size);
            System.arraycopy(c, 0, copy.c, 0, size);
            System.arraycopy(e, 0, copy.e, 0, size);
            copy.size = size;
            return copy;
        }

        int part(int i, int what) {
            if (i < 0 || i >= size) {
                return NO_PART;
            }
            switch (what) {
                case 0: return a[i];
                case 1: return b[i];
                case 2: return c[i];
                default: return e[i];
            }
        }

        void put(int na, int nb, int nc, int ne) {
            insert(size, na, nb, nc, ne);
        }

        /** Puts a condition at its place in the order, once only. */
        void putInOrder(Step step, int ne) {
            int at = 0;
            while (at < size && compare(at, step) < 0) {
                at++;
            }
            // A body has one side at most towards each direction, so that the step alone tells sides apart.
            if (at == size || compare(at, step) != 0) {
                insert(at, step.x, step.y, step.z, ne);
            }
        }

        private int compare(int i, Step step) {
            if (a[i] != step.x) {
                return a[i] - step.x;
            }
            if (b[i] != step.y) {
                return b[i] - step.y;
            }
            return c[i] - step.z;
        }

        private void insert(int at, int na, int nb, int nc, int ne) {
            if (at < 0 || at > size || size >= a.length) {
                return;
            }
            for (int i = size; i > at; i--) {
                a[i] = a[i - 1];
                b[i] = b[i - 1];
                c[i] = c[i - 1];
                e[i] = e[i - 1];
            }
            a[at] = na;
            b[at] = nb;
            c[at] = nc;
            e[at] = ne;
            size++;
        }

        /** How far the point x / q, y / q, z / q is above condition i, times q. */
        long excess(int i, long x, long y, long z, long q) {
            return a[i] * x + b[i] * y + c[i] * z - e[i] * q;
        }

        /** How many of the conditions hold a point at their very edge. */
        int touched(Points points, int i) {
            int found = 0;
            for (int s = 0; s < size; s++) {
                if (excess(s, points.x[i], points.y[i], points.z[i], 1) == 0) {
                    found++;
                }
            }
            return found;
        }
    }

    /** A step of whole numbers in three directions. */
    private static final class Step {
        int x;
        int y;
        int z;

        void lead(Points points, int from, int to) {
            x = points.x[to] - points.x[from];
            y = points.y[to] - points.y[from];
            z = points.z[to] - points.z[from];
        }

        /** Becomes square to two others; nought if those lie in a row. */
        void square(Step one, Step other) {
            x = one.y * other.z - one.z * other.y;
            y = one.z * other.x - one.x * other.z;
            z = one.x * other.y - one.y * other.x;
        }

        boolean isNought() {
            return x == 0 && y == 0 && z == 0;
        }

        int times(Step other) {
            return x * other.x + y * other.y + z * other.z;
        }

        int at(Points points, int i) {
            return x * points.x[i] + y * points.y[i] + z * points.z[i];
        }

        void flip() {
            x = -x;
            y = -y;
            z = -z;
        }

        void shorten() {
            int divisor = commonDivisor(commonDivisor(Math.abs(x), Math.abs(y)), Math.abs(z));
            if (divisor > 1) {
                x /= divisor;
                y /= divisor;
                z /= divisor;
            }
        }

        private static int commonDivisor(int one, int other) {
            int greater = one;
            int less = other;
            // Euclid needs far fewer rounds than this for any two ints.
            for (int round = 0; round < 100 && less != 0; round++) {
                int rest = greater % less;
                greater = less;
                less = rest;
            }
            return greater;
        }
    }

    /** Finds the corners and the sides of what lies between the points that it has taken. */
    private static final class Maker {
        final Points points = new Points(MOST_POINTS);
        private final Conditions sides = new Conditions(MOST_SIDES);
        private final Conditions bonds = new Conditions(MOST_BONDS);
        private final Step along = new Step();
        private final Step across = new Step();
        private final Step square = new Step();
        private final Step facing = new Step();
        private int fills;

        void begin() {
            points.size = 0;
        }

        void takeAll(Points others) {
            for (int i = 0; i < others.size; i++) {
                points.put(others.x[i], others.y[i], others.z[i]);
            }
        }

        Body make() {
            int madeOf = points.size;
            points.sort();
            points.thin();
            sides.size = 0;
            bonds.size = 0;
            findSpace();
            bindSpace();
            findEnds();
            findEdges();
            findFaces();
            return new Body(fills, madeOf, cornersFound(), sides.trimmed(), bonds.trimmed());
        }

        /** What is filled; then along spans a row, square stands on a plane. */
        private void findSpace() {
            fills = 0;
            if (points.size < 2) {
                return;
            }
            fills = 1;
            along.lead(points, 0, 1);
            for (int i = 2; i < points.size && fills == 1; i++) {
                across.lead(points, 0, i);
                square.square(along, across);
                if (!square.isNought()) {
                    fills = 2;
                }
            }
            for (int i = 2; i < points.size && fills == 2; i++) {
                across.lead(points, 0, i);
                if (square.times(across) != 0) {
                    fills = 3;
                }
            }
        }

        /** The conditions that hold in all of the space, so that flat bodies are asked like others. */
        private void bindSpace() {
            if (fills == 0) {
                bind(1, 0, 0);
                bind(0, 1, 0);
                bind(0, 0, 1);
            } else if (fills == 1) {
                along.shorten();
                bind(0, along.z, -along.y);
                bind(-along.z, 0, along.x);
                bind(along.y, -along.x, 0);
            } else if (fills == 2) {
                square.shorten();
                boolean below = square.x < 0
                        || square.x == 0 && (square.y < 0 || square.y == 0 && square.z < 0);
                if (below) {
                    square.flip();
                }
                bind(square.x, square.y, square.z);
            }
        }

        private void bind(int a, int b, int c) {
            if (points.size > 0) {
                bonds.put(a, b, c, a * points.x[0] + b * points.y[0] + c * points.z[0]);
            }
        }

        /** The sides of what fills 1. */
        private void findEnds() {
            if (fills != 1) {
                return;
            }
            for (int i = 0; i < points.size; i++) {
                facing.lead(points, 0, points.size - 1);
                trySide(i);
            }
        }

        /** The sides of what fills 2. */
        private void findEdges() {
            if (fills != 2) {
                return;
            }
            for (int i = 0; i < points.size; i++) {
                for (int j = i + 1; j < points.size; j++) {
                    along.lead(points, i, j);
                    facing.square(along, square);
                    trySide(i);
                }
            }
        }

        /** The sides of what fills 3. */
        private void findFaces() {
            if (fills != 3) {
                return;
            }
            for (int i = 0; i < points.size; i++) {
                for (int j = i + 1; j < points.size; j++) {
                    along.lead(points, i, j);
                    for (int k = j + 1; k < points.size; k++) {
                        across.lead(points, i, k);
                        facing.square(along, across);
                        trySide(i);
                    }
                }
            }
        }

        /** Keeps the condition square to facing through a point, if all others are on one side of it. */
        private void trySide(int through) {
            if (facing.isNought()) {
                return;
            }
            int edge = facing.at(points, through);
            boolean above = false;
            boolean below = false;
            for (int i = 0; i < points.size; i++) {
                int value = facing.at(points, i);
                above = above || value > edge;
                below = below || value < edge;
                if (above && below) {
                    return;
                }
            }
            if (above) {
                facing.flip();
            }
            facing.shorten();
            sides.putInOrder(facing, facing.at(points, through));
        }

        /** Of the points, those on as many sides as directions are filled; what is on fewer lies between others. */
        private Points cornersFound() {
            int found = 0;
            for (int i = 0; i < points.size; i++) {
                // This writes over what has been looked at already: found never runs ahead of i.
                if (sides.touched(points, i) >= fills) {
                    points.copy(i, found);
                    found++;
                }
            }
            points.size = found;
            return points.trimmed();
        }
    }

    /** A body with its corners and sides in order; its rule and swellings are found when first asked for. */
    private static final class Body {
        final int fills;
        final int madeOf;
        final Points corners;
        final Conditions sides;
        final Conditions bonds;
        private final int[] least = new int[3];
        private final int[] greatest = new int[3];
        private final Swelling[] swellings = new Swelling[MOST_SWELLING + 1];
        private Growth growth;

        Body(int fills, int madeOf, Points corners, Conditions sides, Conditions bonds) {
            this.fills = fills;
            this.madeOf = madeOf;
            this.corners = corners;
            this.sides = sides;
            this.bonds = bonds;
            for (int way = 0; way < 3; way++) {
                least[way] = corners.part(0, way);
                greatest[way] = corners.part(0, way);
                for (int i = 1; i < corners.size; i++) {
                    least[way] = Math.min(least[way], corners.part(i, way));
                    greatest[way] = Math.max(greatest[way], corners.part(i, way));
                }
            }
        }

        int kind() {
            if (isBrick()) {
                return isMirror() ? MIRROR : BRICK;
            }
            if (corners.size == fills + 1) {
                return WEDGE;
            }
            return fills < 3 ? FLAT : PLAIN;
        }

        private boolean isBrick() {
            int due = 1;
            for (int way = 0; way < 3; way++) {
                due *= least[way] < greatest[way] ? 2 : 1;
                for (int i = 0; i < corners.size; i++) {
                    int part = corners.part(i, way);
                    if (part != least[way] && part != greatest[way]) {
                        return false;
                    }
                }
            }
            return corners.size == due;
        }

        private boolean isMirror() {
            for (int way = 0; way < 3; way++) {
                if (least[way] != -greatest[way]) {
                    return false;
                }
            }
            return true;
        }

        int cornersOn(int side) {
            int found = 0;
            for (int i = 0; i < corners.size; i++) {
                if (sides.excess(side, corners.x[i], corners.y[i], corners.z[i], 1) == 0) {
                    found++;
                }
            }
            return found;
        }

        /** 2: the point x / q, y / q, z / q is within, 1: on the skin, 0: outside. */
        int placeOf(int x, int y, int z, int q) {
            for (int i = 0; i < bonds.size; i++) {
                if (bonds.excess(i, x, y, z, q) != 0) {
                    return 0;
                }
            }
            int place = 2;
            for (int i = 0; i < sides.size; i++) {
                long excess = sides.excess(i, x, y, z, q);
                if (excess > 0) {
                    return 0;
                }
                if (excess == 0) {
                    place = 1;
                }
            }
            return place;
        }

        boolean holds(Points points) {
            for (int i = 0; i < points.size; i++) {
                if (placeOf(points.x[i], points.y[i], points.z[i], 1) == 0) {
                    return false;
                }
            }
            return true;
        }

        int greatestOf(int a, int b, int c) {
            int found = LEAST_WEIGHED;
            for (int i = 0; i < corners.size; i++) {
                found = Math.max(found, a * corners.x[i] + b * corners.y[i] + c * corners.z[i]);
            }
            return found;
        }

        /** The swelling by n, 1 to 5. */
        Swelling swelling(int n) {
            int kept = Math.min(Math.max(n, 1), MOST_SWELLING);
            if (swellings[kept] == null) {
                swellings[kept] = new Swelling(sides, bonds, least, greatest, kept);
            }
            return swellings[kept];
        }

        Growth growth() {
            if (growth == null) {
                int[] counts = new int[4];
                counts[0] = 1;
                for (int n = 1; n <= fills && n < 4; n++) {
                    counts[n] = swelling(n).total();
                }
                growth = new Growth(fills, counts);
            }
            return growth;
        }
    }

    /** The rule by which a body grows. */
    private static final class Growth {
        // The coefficients of n to the 0, 1, 2, 3, each times 6: so they are whole.
        final int[] numbers = new int[4];
        private final int degree;

        /** The rule from as many counts as its degree needs, by their differences (Newton). */
        Growth(int degree, int[] counts) {
            this.degree = Math.min(degree, 3);
            int[] steps = new int[4];
            for (int i = 0; i <= this.degree && i < counts.length; i++) {
                steps[i] = counts[i];
            }
            for (int round = 1; round <= this.degree; round++) {
                for (int i = this.degree; i >= round; i--) {
                    steps[i] -= steps[i - 1];
                }
            }
            // 6 times: 1, n, n (n - 1) / 2, n (n - 1) (n - 2) / 6, each times its difference.
            numbers[0] = 6 * steps[0];
            numbers[1] = 6 * steps[1] - 3 * steps[2] + 2 * steps[3];
            numbers[2] = 3 * steps[2] - 3 * steps[3];
            numbers[3] = steps[3];
        }

        long at(long n) {
            return (((numbers[3] * n + numbers[2]) * n + numbers[1]) * n + numbers[0]) / 6;
        }

        int stair(int i) {
            long sum = 0;
            long chosen = 1;
            for (int j = 0; j <= i; j++) {
                sum += chosen * at(i - j);
                // The next binomial, with the other sign.
                chosen = -chosen * (degree + 1 - j) / (j + 1);
            }
            return (int) sum;
        }
    }

    /** The whole points of a body's swelling, as columns in z over x and y. */
    private static final class Swelling {
        private final Conditions sides;
        private final Conditions bonds;
        private final int factor;
        private final int leastX;
        private final int greatestX;
        private final int leastY;
        private final int greatestY;
        private final int leastZ;
        private final int greatestZ;
        // Element i: how many whole points have an x below leastX + i.
        private final int[] before;
        // The column that was looked at last; low is above high if it is empty.
        private int low;
        private int high;

        Swelling(Conditions sides, Conditions bonds, int[] least, int[] greatest, int factor) {
            this.sides = sides;
            this.bonds = bonds;
            this.factor = factor;
            leastX = least[0] * factor;
            greatestX = greatest[0] * factor;
            leastY = least[1] * factor;
            greatestY = greatest[1] * factor;
            leastZ = least[2] * factor;
            greatestZ = greatest[2] * factor;
            before = new int[Math.max(greatestX - leastX, 0) + 2];
            for (int i = 0; i + 1 < before.length; i++) {
                before[i + 1] = before[i] + pointsBelow(leastX + i, greatestY + 1);
            }
        }

        int total() {
            return before[before.length - 1];
        }

        /** How many whole points have this x and a y below the one given. */
        private int pointsBelow(int x, int y) {
            int found = 0;
            for (int atY = leastY; atY < y && atY <= greatestY; atY++) {
                look(x, atY);
                found += lookedAt();
            }
            return found;
        }

        private int lookedAt() {
            return Math.max(high - low + 1, 0);
        }

        private void look(int x, int y) {
            low = leastZ;
            high = greatestZ;
            for (int i = 0; i < bonds.size && low <= high; i++) {
                int rest = bonds.e[i] * factor - bonds.a[i] * x - bonds.b[i] * y;
                bound(bonds.c[i], rest);
                bound(-bonds.c[i], -rest);
            }
            for (int i = 0; i < sides.size && low <= high; i++) {
                bound(sides.c[i], sides.e[i] * factor - sides.a[i] * x - sides.b[i] * y);
            }
        }

        /** Leaves of the column what has c z at most at rest. */
        private void bound(int c, int rest) {
            if (c > 0) {
                high = Math.min(high, Math.floorDiv(rest, c));
            } else if (c < 0) {
                low = Math.max(low, -Math.floorDiv(rest, -c));
            } else if (rest < 0) {
                high = low - 1;
            }
        }

        int pointPart(int i, int what) {
            if (i < 0 || i >= total()) {
                return NO_POINT;
            }
            int slab = 0;
            while (slab + 2 < before.length && before[slab + 1] <= i) {
                slab++;
            }
            int x = leastX + slab;
            int left = i - before[slab];
            for (int y = leastY; y <= greatestY; y++) {
                look(x, y);
                if (left < lookedAt()) {
                    return what == 0 ? x : what == 1 ? y : low + left;
                }
                left -= lookedAt();
            }
            return NO_POINT;
        }

        int rankOf(int x, int y, int z) {
            if (x < leastX || x > greatestX || y < leastY || y > greatestY) {
                return NONE;
            }
            int ahead = before[x - leastX] + pointsBelow(x, y);
            look(x, y);
            return z >= low && z <= high ? ahead + z - low : NONE;
        }

        /** Takes the whole points whose number in a direction is v. */
        void gather(Points into, int way, int v) {
            for (int x = leastX; x <= greatestX; x++) {
                for (int y = leastY; y <= greatestY; y++) {
                    if (way == 0 && x != v || way == 1 && y != v) {
                        continue;
                    }
                    look(x, y);
                    for (int z = low; z <= high; z++) {
                        if (way != 2 || z == v) {
                            into.put(x, y, z);
                        }
                    }
                }
            }
        }
    }
}

import java.util.Arrays;

/** Bent light on a plane of pixels, as ../shared/DOC.md promises it. */
public final class LensBench {
    public static final int BAD = -1, STATE = -2, FULL = -3, NONE = -9;
    public static final int NO = -1000000000;

    // bright() tells BAD so, beside the other calls' -1.
    private static final int BAD_BRIGHTNESS = -2;

    private static final int POINT = 0, SOFT = 1, CUT = 2;

    // What tells a body, numbered as set() numbers it.
    private static final int KIND = 0, X = 1, Y = 2, WEIGHT = 3, CORE = 4, EDGE = 5;
    private static final int FEATURES = 6;
    private static final int[] LEAST_OF = {0, -40, -40, 0, 0, 0};
    private static final int[] MOST_OF = {2, 40, 40, 400, 900, 90};

    private static final int MAX_BODIES = 8, MAX_BYTES = 200, MAX_PAIRS = 10, MAX_SPOTS = 8;
    private static final int MAX_FIELD = 8, MAX_TOLERANCE = 64, MAX_BRIGHTNESS = 99;
    private static final int MAX_TRIED = 3, MAX_WEIGHT_TRIED = 15, MAX_MODELS = 4096;
    private static final int RIM = 24, ASKED_RIM = 60, MARK_RIM = 30, CELL_RIM = 99, FAR_RIM = 2000;

    private static final int SIDE = 2 * RIM + 1, PIXELS = SIDE * SIDE;

    // Parity looks one place beyond the pixels.
    private static final int WIDE_RIM = RIM + 1, WIDE_SIDE = 2 * WIDE_RIM + 1;

    // Eight bodies of the greatest weight move a cell by some 3300 at most.
    private static final int CELL_SPAN = 8192, CELL_HALF = 4096;

    private final Lens lens;
    private final Plane plane;
    private final Groups groups;
    private final Tally tally;
    private final Text text;
    private final Trials trials;
    private final Brightness brightness;
    private long traced;

    public LensBench() {
        Lens newLens = new Lens();
        Tally newTally = new Tally();
        Plane newPlane = new Plane(newLens);
        lens = newLens;
        tally = newTally;
        plane = newPlane;
        groups = new Groups();
        text = new Text();
        trials = new Trials(newLens, newTally);
        brightness = new Brightness(newPlane, newTally);
    }

    // ---- bodies

    public int body(int kind, int x, int y, int weight) {
        if (!isFeature(KIND, kind) || !isFeature(X, x) || !isFeature(Y, y) || !isFeature(WEIGHT, weight)) {
            return BAD;
        }
        if (lens.bodyCount >= MAX_BODIES) {
            return FULL;
        }
        lensChanges();
        return lens.add(kind, x, y, weight);
    }

    public int set(int body, int what, int v) {
        if (!isBody(body) || !within(what, 0, FEATURES - 1) || !isFeature(what, v)) {
            return NO;
        }
        lensChanges();
        int was = lens.bodies[body][what];
        lens.bodies[body][what] = v;
        return was;
    }

    public int drop() {
        if (lens.bodyCount <= 0) {
            return STATE;
        }
        lensChanges();
        lens.bodyCount--;
        return lens.bodyCount;
    }

    public int field(int what, int v) {
        if (!within(what, 0, 1) || !within(v, -MAX_FIELD, MAX_FIELD)) {
            return NO;
        }
        lensChanges();
        int was = what == 0 ? lens.g : lens.h;
        if (what == 0) {
            lens.g = v;
        } else {
            lens.h = v;
        }
        return was;
    }

    public int bend(int kind, int body, int x, int y, int axis) {
        if (!isFeature(KIND, kind) || !isBody(body) || !isAsked(x, y, axis)) {
            return NO;
        }
        int[] bending = lens.bodies[body];
        traced += Lens.askedBy(kind);
        return Lens.bendBy(kind, bending, bending[WEIGHT], x, y, axis);
    }

    public int from(int x, int y, int axis) {
        return isAsked(x, y, axis) ? lens.lightAt(x, y, axis) : NO;
    }

    public int cell(int x, int y, int axis) {
        return isAsked(x, y, axis) ? cellOf(lens.lightAt(x, y, axis)) : NO;
    }

    // ---- pictures

    public int pictures(int x, int y, int what) {
        if (!isWithin(x, y, CELL_RIM) || !within(what, 0, 1)) {
            return BAD;
        }
        int pixels = markPictures(x, y);
        if (what == 0) {
            return pixels;
        }
        return groups.split(NONE);
    }

    public int group(int x, int y, int i, int what) {
        if (!isWithin(x, y, CELL_RIM) || i < 0 || !within(what, 0, 3)) {
            return NO;
        }
        markPictures(x, y);
        if (i >= groups.split(i)) {
            return NO;
        }
        int firstX = xOf(groups.wantedFirst);
        int firstY = yOf(groups.wantedFirst);
        switch (what) {
            case 0:
                return firstX;
            case 1:
                return firstY;
            case 2:
                return groups.wantedSize;
            default:
                return plane.parityAt(firstX, firstY);
        }
    }

    public int parity(int x, int y) {
        if (!isWithin(x, y, RIM)) {
            return NO;
        }
        plane.lookAnew();
        return plane.parityAt(x, y);
    }

    public int critical(int x, int y) {
        if (!isWithin(x, y, RIM)) {
            return BAD;
        }
        plane.lookAnew();
        return plane.isCritical(x, y) ? 1 : 0;
    }

    public int rings(int what) {
        if (!within(what, 0, 3)) {
            return BAD;
        }
        plane.lookAnew();
        if (what >= 2) {
            return plane.countOfParity(what == 2 ? 1 : -1);
        }
        int criticals = markCriticals();
        return what == 0 ? criticals : groups.split(NONE);
    }

    public int brightest(int what) {
        if (!within(what, 0, 2)) {
            return NO;
        }
        plane.lookAnew();
        tally.start();
        for (int pixel = 0; pixel < PIXELS; pixel++) {
            tally.numberOf(plane.cellKeys[pixel]);
        }
        int most = tally.greatest();
        if (what == 0) {
            return tally.counts[most];
        }
        return what == 1 ? tally.keys[most] % CELL_SPAN - CELL_HALF : tally.keys[most] / CELL_SPAN - CELL_HALF;
    }

    public long delay(int x, int y, int toX, int toY, int farX, int farY) {
        if (!isWithin(x, y, RIM) || !isWithin(toX, toY, RIM) || !isWithin(farX, farY, FAR_RIM)) {
            return NO;
        }
        plane.lookAnew();
        return plane.delayOnWay(x, y, toX, toY, farX, farY);
    }

    public int stretch(int n) {
        if (!within(n, 1, RIM)) {
            return NO;
        }
        plane.lookAnew();
        return plane.stretchOf(n);
    }

    // ---- texts

    public int type(long v, int n) {
        if (!within(n, 1, 8)) {
            return BAD;
        }
        if (text.length + n > MAX_BYTES) {
            return FULL;
        }
        for (int i = n - 1; i >= 0; i--) {
            text.add((int) (v >>> (8 * i) & 255));
        }
        return text.length;
    }

    public int clear() {
        int had = text.length;
        text.length = 0;
        return had;
    }

    public int read() {
        int told = text.tellBodies();
        if (told < 0) {
            return -10 - text.at;
        }
        lensChanges();
        int[][] spare = lens.bodies;
        lens.bodies = text.bodies;
        lens.bodyCount = told;
        text.bodies = spare;
        text.length = 0;
        return told;
    }

    // ---- weights told back

    public int pair(int x, int y, int otherX, int otherY) {
        if (!isWithin(x, y, MARK_RIM) || !isWithin(otherX, otherY, MARK_RIM)) {
            return BAD;
        }
        if (trials.pairCount >= MAX_PAIRS) {
            return FULL;
        }
        return trials.addPair(x, y, otherX, otherY);
    }

    public int wipe() {
        int had = trials.pairCount;
        trials.pairCount = 0;
        trials.stale = true;
        return had;
    }

    public int tolerance(int what, int v) {
        if (!within(what, 0, 1) || !within(v, 0, what == 0 ? MAX_TOLERANCE : MAX_BRIGHTNESS)) {
            return BAD;
        }
        int was = what == 0 ? trials.slack : brightness.noise;
        if (what == 0) {
            trials.slack = v;
            trials.stale = true;
        } else {
            brightness.noise = v;
        }
        return was;
    }

    public int fits(int n, int most, int model) {
        if (!isTrial(n, most)) {
            return BAD;
        }
        trials.load(n, most);
        if (!within(model, 0, trials.modelCount - 1)) {
            return BAD;
        }
        return trials.holds(model) ? 1 : 0;
    }

    public int models(int n, int most, int what) {
        if (!isTrial(n, most) || !within(what, 0, 3)) {
            return BAD;
        }
        trials.load(n, most);
        trials.gather();
        switch (what) {
            case 0:
                return trials.fitCount;
            case 1:
                return trials.least();
            case 2:
                return trials.twins();
            default:
                return trials.nextLook();
        }
    }

    public int sure(int n, int most, int body) {
        if (!isTrial(n, most) || !within(body, 0, n - 1)) {
            return BAD;
        }
        trials.load(n, most);
        trials.gather();
        return trials.sureWeight(body);
    }

    public int spot(int x, int y) {
        if (!isWithin(x, y, MARK_RIM)) {
            return BAD;
        }
        if (trials.spotCount >= MAX_SPOTS) {
            return FULL;
        }
        return trials.addSpot(x, y);
    }

    public int forget() {
        int had = trials.spotCount;
        trials.spotCount = 0;
        trials.stale = true;
        return had;
    }

    // ---- brightness

    public int bright(int x, int y, int v) {
        if (!isWithin(x, y, RIM) || v != NONE && !within(v, 0, MAX_BRIGHTNESS)) {
            return BAD_BRIGHTNESS;
        }
        int pixel = pixelAt(x, y);
        int was = brightness.told[pixel];
        brightness.told[pixel] = v;
        return was;
    }

    public int far(int x, int y) {
        if (!isWithin(x, y, CELL_RIM)) {
            return BAD;
        }
        plane.lookAnew();
        return brightness.farOf(keyOf(x, y));
    }

    public int contradicts() {
        plane.lookAnew();
        return brightness.contradictions();
    }

    public int filled(int x, int y) {
        if (!isWithin(x, y, RIM)) {
            return BAD;
        }
        int pixel = pixelAt(x, y);
        if (brightness.told[pixel] != NONE) {
            return brightness.told[pixel];
        }
        plane.lookAnew();
        return brightness.farOf(plane.cellKeys[pixel]);
    }

    public int count(int what) {
        switch (what) {
            case 0:
                return lens.bodyCount;
            case 1:
                return trials.pairCount;
            case 2:
                return trials.spotCount;
            case 3:
                return brightness.toldCount();
            case 4:
                return text.length;
            case 5:
                return lens.weights();
            default:
                return BAD;
        }
    }

    public long trace() {
        return traced;
    }

    // ---- what the calls share

    private static boolean within(int v, int least, int most) {
        return v >= least && v <= most;
    }

    private static boolean isWithin(int x, int y, int rim) {
        return within(x, -rim, rim) && within(y, -rim, rim);
    }

    private static boolean isAsked(int x, int y, int axis) {
        return isWithin(x, y, ASKED_RIM) && within(axis, 0, 1);
    }

    private static boolean isFeature(int what, int v) {
        return within(v, LEAST_OF[what], MOST_OF[what]);
    }

    private boolean isBody(int body) {
        return within(body, 0, lens.bodyCount - 1);
    }

    private boolean isTrial(int n, int most) {
        return within(n, 1, MAX_TRIED) && n <= lens.bodyCount && within(most, 1, MAX_WEIGHT_TRIED);
    }

    private void lensChanges() {
        plane.stale = true;
        trials.stale = true;
    }

    private int markPictures(int x, int y) {
        plane.lookAnew();
        int key = keyOf(x, y);
        int marked = 0;
        for (int pixel = 0; pixel < PIXELS; pixel++) {
            boolean isPicture = plane.cellKeys[pixel] == key;
            groups.waiting[pixel] = isPicture;
            marked += isPicture ? 1 : 0;
        }
        return marked;
    }

    private int markCriticals() {
        int marked = 0;
        for (int pixel = 0; pixel < PIXELS; pixel++) {
            boolean isCritical = plane.isCritical(xOf(pixel), yOf(pixel));
            groups.waiting[pixel] = isCritical;
            marked += isCritical ? 1 : 0;
        }
        return marked;
    }

    private static int pixelAt(int x, int y) {
        return (y + RIM) * SIDE + x + RIM;
    }

    private static int xOf(int pixel) {
        return pixel % SIDE - RIM;
    }

    private static int yOf(int pixel) {
        return pixel / SIDE - RIM;
    }

    private static int cellOf(int light) {
        return Math.floorDiv(light + 8, 16);
    }

    private static int keyOf(int cellX, int cellY) {
        return (cellY + CELL_HALF) * CELL_SPAN + cellX + CELL_HALF;
    }

    /** The bodies and the field, and how they bend light. */
    private static final class Lens {
        private int[][] bodies = new int[MAX_BODIES][FEATURES];
        private int bodyCount;
        private int g;
        private int h;

        private int add(int kind, int x, int y, int weight) {
            int number = bodyCount;
            int[] added = bodies[number];
            added[KIND] = kind;
            added[X] = x;
            added[Y] = y;
            added[WEIGHT] = weight;
            added[CORE] = 0;
            added[EDGE] = MOST_OF[EDGE];
            bodyCount++;
            return number;
        }

        private int weights() {
            int sum = 0;
            for (int i = 0; i < bodyCount; i++) {
                sum += bodies[i][WEIGHT];
            }
            return sum;
        }

        private int lightAt(int x, int y, int axis) {
            return lightPast(0, x, y, axis);
        }

        /** Where the light of a place comes from if the bodies below firstBody did not bend it. */
        private int lightPast(int firstBody, int x, int y, int axis) {
            int light = axis == 0 ? 16 * x - (g * x + h * y) : 16 * y - (h * x - g * y);
            for (int i = firstBody; i < bodyCount; i++) {
                light -= bendBy(bodies[i][KIND], bodies[i], bodies[i][WEIGHT], x, y, axis);
            }
            return light;
        }

        /** The weight stands beside the body, as other weights are tried, too. */
        private static int bendBy(int kind, int[] body, int weight, int x, int y, int axis) {
            int r = squares(body, x, y);
            if (r == 0 || kind == CUT && isCutAway(body, r)) {
                return 0;
            }
            int byPoint = 16 * weight * (axis == 0 ? x - body[X] : y - body[Y]) / r;
            return kind == POINT ? byPoint : byPoint * r / (r + body[CORE]);
        }

        /** What one bend() adds to the trace: each kind asks up at every place, also where its answer is 0. */
        private static int askedBy(int kind) {
            switch (kind) {
                case POINT:
                    return 1;
                case SOFT:
                    return 11;
                default:
                    return 111;
            }
        }

        private static boolean isCutAway(int[] body, int r) {
            return r > body[EDGE] * body[EDGE];
        }

        private static int squares(int[] body, int x, int y) {
            int dx = x - body[X];
            int dy = y - body[Y];
            return dx * dx + dy * dy;
        }
    }

    /** The light, cells and parities of all pixels, kept until the lens changes. */
    private static final class Plane {
        private final Lens lens;
        private final int[] lightX = new int[WIDE_SIDE * WIDE_SIDE];
        private final int[] lightY = new int[WIDE_SIDE * WIDE_SIDE];
        private final int[] cellKeys = new int[PIXELS];
        private final int[] parities = new int[PIXELS];
        private boolean stale = true;

        private Plane(Lens seenThrough) {
            lens = seenThrough;
        }

        private void lookAnew() {
            if (!stale) {
                return;
            }
            for (int y = -WIDE_RIM; y <= WIDE_RIM; y++) {
                for (int x = -WIDE_RIM; x <= WIDE_RIM; x++) {
                    int place = placeAt(x, y);
                    lightX[place] = lens.lightAt(x, y, 0);
                    lightY[place] = lens.lightAt(x, y, 1);
                }
            }
            for (int pixel = 0; pixel < PIXELS; pixel++) {
                int place = placeAt(xOf(pixel), yOf(pixel));
                cellKeys[pixel] = keyOf(cellOf(lightX[place]), cellOf(lightY[place]));
                parities[pixel] = signOfArea(place);
            }
            stale = false;
        }

        private static int placeAt(int x, int y) {
            return (y + WIDE_RIM) * WIDE_SIDE + x + WIDE_RIM;
        }

        private static int across(int[] light, int place) {
            return light[place + 1] - light[place - 1];
        }

        private static int down(int[] light, int place) {
            return light[place + WIDE_SIDE] - light[place - WIDE_SIDE];
        }

        private int signOfArea(int place) {
            // Near heavy bodies the products leave an int.
            long straight = (long) across(lightX, place) * down(lightY, place);
            long askew = (long) across(lightY, place) * down(lightX, place);
            return Long.compare(straight, askew);
        }

        private int parityAt(int x, int y) {
            return parities[pixelAt(x, y)];
        }

        private boolean isCritical(int x, int y) {
            int own = parityAt(x, y);
            return x < RIM && parityAt(x + 1, y) != own || y < RIM && parityAt(x, y + 1) != own;
        }

        private int countOfParity(int wanted) {
            int found = 0;
            for (int pixel = 0; pixel < PIXELS; pixel++) {
                found += parities[pixel] == wanted ? 1 : 0;
            }
            return found;
        }

        private long delayOnWay(int x, int y, int toX, int toY, int farX, int farY) {
            return delayAlong(lightX, placeAt(x, y), toX - x, 1, farX)
                    + delayAlong(lightY, placeAt(toX, y), toY - y, WIDE_SIDE, farY);
        }

        /** The sign of steps is their direction; stride is what a step forwards adds to a place. */
        private static long delayAlong(int[] light, int begin, int steps, int stride, int far) {
            int sign = Integer.signum(steps);
            long sum = 0;
            for (int i = 0; i < Math.abs(steps); i++) {
                int here = begin + i * sign * stride;
                sum += (long) sign * (light[here] + light[here + sign * stride] - 2 * far);
            }
            return sum;
        }

        private int stretchOf(int n) {
            long doubled = 0;
            for (int y = -n; y <= n; y++) {
                for (int x = -n; x <= n; x++) {
                    if (Math.max(Math.abs(x), Math.abs(y)) == n) {
                        doubled += doubledStretchAt(x, y);
                    }
                }
            }
            return (int) Math.floorDiv(doubled, 128L);
        }

        /** Twice a pixel's share, so that the half stays whole. */
        private long doubledStretchAt(int x, int y) {
            int place = placeAt(x, y);
            long crossed = across(lightY, place) + down(lightX, place);
            long straight = across(lightX, place) - down(lightY, place);
            return 2 * crossed * x * y - straight * (x * x - y * y);
        }
    }

    /** Splits marked pixels into groups of neighbours. */
    private static final class Groups {
        private final boolean[] waiting = new boolean[PIXELS];
        private final int[] queue = new int[PIXELS];
        private int wantedFirst;
        private int wantedSize;

        /** How many groups the marked pixels are; the marks are used up, and the wanted group is kept. */
        private int split(int wanted) {
            int found = 0;
            for (int pixel = 0; pixel < PIXELS; pixel++) {
                if (waiting[pixel]) {
                    int size = collect(pixel);
                    if (found == wanted) {
                        wantedFirst = pixel;
                        wantedSize = size;
                    }
                    found++;
                }
            }
            return found;
        }

        private int collect(int first) {
            waiting[first] = false;
            queue[0] = first;
            int queued = 1;
            for (int next = 0; next < queued && next < PIXELS; next++) {
                queued = queueNeighbours(queue[next], queued);
            }
            return queued;
        }

        private int queueNeighbours(int pixel, int queuedBefore) {
            int queued = queuedBefore;
            int column = pixel % SIDE;
            int row = pixel / SIDE;
            for (int y = Math.max(row - 1, 0); y <= Math.min(row + 1, SIDE - 1); y++) {
                for (int x = Math.max(column - 1, 0); x <= Math.min(column + 1, SIDE - 1); x++) {
                    int neighbour = y * SIDE + x;
                    if (waiting[neighbour] && queued < PIXELS) {
                        waiting[neighbour] = false;
                        queue[queued] = neighbour;
                        queued++;
                    }
                }
            }
            return queued;
        }
    }

    /** Numbers keys as they first come, and counts how often each came. */
    private static final class Tally {
        private static final int PLACES = 8192, MOST_KEYS = 4096;
        private final int[] numberAt = new int[PLACES]; // one more than the number; 0 where free
        private final int[] keys = new int[MOST_KEYS];
        private final int[] counts = new int[MOST_KEYS];
        private int distinct;

        private void start() {
            Arrays.fill(numberAt, 0);
            distinct = 0;
        }

        private int numberOf(int key) {
            int place = key * 0x9E3779B1 >>> 19;
            for (int tries = 0; tries < PLACES; tries++) {
                int number = numberAt[place] - 1;
                if (number < 0) {
                    return take(key, place);
                }
                if (keys[number] == key) {
                    counts[number]++;
                    return number;
                }
                place = place + 1 & PLACES - 1;
            }
            return 0; // never: half of the places stay free
        }

        private int take(int key, int place) {
            if (distinct >= MOST_KEYS) {
                return 0; // never: neither pixels nor models are more
            }
            int number = distinct;
            keys[number] = key;
            counts[number] = 1;
            distinct++;
            numberAt[place] = distinct;
            return number;
        }

        /** The number of the first key that came most often. */
        private int greatest() {
            int best = 0;
            for (int number = 1; number < distinct; number++) {
                if (counts[number] > counts[best]) {
                    best = number;
                }
            }
            return best;
        }
    }

    /** The text, and the bodies that it tells. */
    private static final class Text {
        private final int[] bytes = new int[MAX_BYTES];
        private int[][] bodies = new int[MAX_BODIES][FEATURES];
        private int length;
        private int at; // where reading stands; the fault, if it failed

        private void add(int value) {
            if (length < MAX_BYTES) {
                bytes[length] = value;
                length++;
            }
        }

        /** How many bodies the text tells, or -1 with the fault in "at". */
        private int tellBodies() {
            at = 0;
            int told = 0;
            for (; told < MAX_BODIES && at < length; told++) {
                if (!takeItem(bodies[told])) {
                    return -1;
                }
            }
            return at < length ? -1 : told;
        }

        private boolean takeItem(int[] body) {
            int kind = takeKind();
            if (kind < 0) {
                return false;
            }
            body[KIND] = kind;
            body[CORE] = 0;
            body[EDGE] = MOST_OF[EDGE];
            return takeNumber(body, X) && takeSign(',') && takeNumber(body, Y)
                    && takeSign('w') && takeNumber(body, WEIGHT)
                    && (kind == POINT || takeSign('o') && takeNumber(body, CORE))
                    && (kind != CUT || takeSign('e') && takeNumber(body, EDGE))
                    && takeSign(';');
        }

        private int takeKind() {
            if (takeSign('p')) {
                return POINT;
            }
            if (takeSign('s')) {
                return SOFT;
            }
            return takeSign('c') ? CUT : -1;
        }

        private boolean takeSign(char sign) {
            if (at >= length || bytes[at] != sign) {
                return false;
            }
            at++;
            return true;
        }

        private boolean takeNumber(int[] body, int what) {
            boolean isNegative = LEAST_OF[what] < 0 && takeSign('-');
            if (!isNegative && takeSign('0')) {
                body[what] = 0;
                return true;
            }
            if (at >= length || !within(bytes[at], '1', '9')) {
                return false;
            }
            int most = isNegative ? -LEAST_OF[what] : MOST_OF[what];
            int value = 0;
            for (; at < length && within(bytes[at], '0', '9'); at++) {
                value = 10 * value + bytes[at] - '0';
                if (value > most) {
                    return false;
                }
            }
            body[what] = isNegative ? -value : value;
            return true;
        }
    }

    /** Weights of the first bodies, tried against the pairs; spots tell those that fit apart. */
    private static final class Trials {
        private static final int WEIGHTS = MAX_WEIGHT_TRIED + 1;
        private static final int SPOT_ROWS = 2 * MAX_PAIRS, ROWS = SPOT_ROWS + 2 * MAX_SPOTS;
        private final Lens lens;
        private final Tally tally;
        private final int[][] pairs = new int[MAX_PAIRS][4];
        private final int[][] spots = new int[MAX_SPOTS][2];
        private int pairCount;
        private int spotCount;
        private int slack = 8;

        // A row is what a pair or a spot shows along an axis: a fixed part, less one part by each tried weight.
        private final int[] fixedParts = new int[ROWS];
        private final int[][] triedParts = new int[ROWS][MAX_TRIED * WEIGHTS];
        private final int[] aimed = new int[MAX_TRIED];
        private final int[] fitting = new int[MAX_MODELS];
        private final int[] heaps = new int[MAX_MODELS];
        private int bodiesTried = 1;
        private int digits = 2;
        private int modelCount;
        private int fitCount;
        private boolean stale = true;
        private boolean isGathered;

        private Trials(Lens triedOn, Tally shared) {
            lens = triedOn;
            tally = shared;
        }

        private int addPair(int x, int y, int otherX, int otherY) {
            int[] added = pairs[pairCount];
            added[0] = x;
            added[1] = y;
            added[2] = otherX;
            added[3] = otherY;
            pairCount++;
            stale = true;
            return pairCount;
        }

        private int addSpot(int x, int y) {
            spots[spotCount][0] = x;
            spots[spotCount][1] = y;
            spotCount++;
            stale = true;
            return spotCount;
        }

        private void load(int n, int most) {
            if (!stale && bodiesTried == n && digits == most + 1) {
                return;
            }
            bodiesTried = n;
            digits = most + 1;
            modelCount = 1;
            for (int body = 0; body < n; body++) {
                modelCount *= digits;
            }
            for (int axis = 0; axis < 2; axis++) {
                for (int i = 0; i < pairCount; i++) {
                    startRow(2 * i + axis);
                    addToRow(2 * i + axis, 1, pairs[i][0], pairs[i][1], axis);
                    addToRow(2 * i + axis, -1, pairs[i][2], pairs[i][3], axis);
                }
                for (int i = 0; i < spotCount; i++) {
                    startRow(SPOT_ROWS + 2 * i + axis);
                    addToRow(SPOT_ROWS + 2 * i + axis, 1, spots[i][0], spots[i][1], axis);
                }
            }
            stale = false;
            isGathered = false;
        }

        private void startRow(int row) {
            fixedParts[row] = 0;
            Arrays.fill(triedParts[row], 0);
        }

        private void addToRow(int row, int sign, int x, int y, int axis) {
            fixedParts[row] += sign * lens.lightPast(bodiesTried, x, y, axis);
            for (int body = 0; body < bodiesTried; body++) {
                int[] bending = lens.bodies[body];
                for (int weight = 0; weight < digits; weight++) {
                    triedParts[row][body * WEIGHTS + weight] +=
                            sign * Lens.bendBy(bending[KIND], bending, weight, x, y, axis);
                }
            }
        }

        private void aim(int model) {
            int rest = model;
            for (int body = 0; body < bodiesTried; body++) {
                aimed[body] = body * WEIGHTS + rest % digits;
                rest /= digits;
            }
        }

        private int shownBy(int row) {
            int shown = fixedParts[row];
            for (int body = 0; body < bodiesTried; body++) {
                shown -= triedParts[row][aimed[body]];
            }
            return shown;
        }

        private boolean holds(int model) {
            aim(model);
            for (int row = 0; row < 2 * pairCount; row++) {
                if (Math.abs(shownBy(row)) > slack) {
                    return false;
                }
            }
            return true;
        }

        private void gather() {
            if (isGathered) {
                return;
            }
            fitCount = 0;
            for (int model = 0; model < modelCount && model < MAX_MODELS; model++) {
                if (holds(model)) {
                    fitting[fitCount] = model;
                    fitCount++;
                }
            }
            isGathered = true;
        }

        private int weightOf(int model, int wanted) {
            int rest = model;
            for (int body = 0; body < wanted; body++) {
                rest /= digits;
            }
            return rest % digits;
        }

        private int least() {
            int best = NONE;
            int bestSum = 0;
            for (int i = 0; i < fitCount; i++) {
                int sum = 0;
                for (int body = 0; body < bodiesTried; body++) {
                    sum += weightOf(fitting[i], body);
                }
                if (best == NONE || sum < bestSum) {
                    best = fitting[i];
                    bestSum = sum;
                }
            }
            return best;
        }

        private int sureWeight(int body) {
            if (fitCount == 0) {
                return NONE;
            }
            int weight = weightOf(fitting[0], body);
            for (int i = 1; i < fitCount; i++) {
                if (weightOf(fitting[i], body) != weight) {
                    return NONE;
                }
            }
            return weight;
        }

        private int twins() {
            int found = fitCount > 0 ? 1 : 0;
            Arrays.fill(heaps, 0);
            for (int i = 0; i < spotCount; i++) {
                splitHeaps(SPOT_ROWS + 2 * i);
                splitHeaps(SPOT_ROWS + 2 * i + 1);
                found = tally.distinct;
            }
            return found;
        }

        private int nextLook() {
            int best = NONE;
            int bestCrowd = 0;
            for (int i = 0; i < spotCount && fitCount > 0; i++) {
                Arrays.fill(heaps, 0);
                splitHeaps(SPOT_ROWS + 2 * i);
                splitHeaps(SPOT_ROWS + 2 * i + 1);
                int crowd = tally.counts[tally.greatest()];
                if (best == NONE || crowd < bestCrowd) {
                    best = i;
                    bestCrowd = crowd;
                }
            }
            return best;
        }

        /** Splits each heap by the cells that its models show in a row. */
        private void splitHeaps(int row) {
            tally.start();
            for (int i = 0; i < fitCount; i++) {
                aim(fitting[i]);
                heaps[i] = tally.numberOf(heaps[i] * CELL_SPAN + cellOf(shownBy(row)) + CELL_HALF);
            }
        }
    }

    /** The told brightness of pixels, and what it tells of cells. */
    private static final class Brightness {
        private final Plane plane;
        private final Tally tally;
        private final int[] told = new int[PIXELS];
        private final int[] darkest = new int[PIXELS];
        private final int[] lightest = new int[PIXELS];
        private int noise = 5;

        private Brightness(Plane seen, Tally shared) {
            plane = seen;
            tally = shared;
            Arrays.fill(told, NONE);
        }

        private int toldCount() {
            int found = 0;
            for (int pixel = 0; pixel < PIXELS; pixel++) {
                found += told[pixel] != NONE ? 1 : 0;
            }
            return found;
        }

        private int farOf(int cellKey) {
            int sum = 0;
            int found = 0;
            for (int pixel = 0; pixel < PIXELS; pixel++) {
                if (told[pixel] != NONE && plane.cellKeys[pixel] == cellKey) {
                    sum += told[pixel];
                    found++;
                }
            }
            return found == 0 ? NONE : sum / found;
        }

        private int contradictions() {
            tally.start();
            for (int pixel = 0; pixel < PIXELS; pixel++) {
                if (told[pixel] != NONE) {
                    widen(told[pixel], plane.cellKeys[pixel]);
                }
            }
            int found = 0;
            for (int number = 0; number < tally.distinct && number < PIXELS; number++) {
                found += lightest[number] - darkest[number] > noise ? 1 : 0;
            }
            return found;
        }

        private void widen(int value, int cellKey) {
            int before = tally.distinct;
            int number = tally.numberOf(cellKey);
            if (number >= PIXELS) {
                return; // never: each pixel brings one cell at most
            }
            boolean isNew = tally.distinct > before;
            darkest[number] = isNew ? value : Math.min(darkest[number], value);
            lightest[number] = isNew ? value : Math.max(lightest[number], value);
        }
    }
}

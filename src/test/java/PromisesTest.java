/** Each promise of ../shared/DOC.md: ordinary inputs, the edges that it names, and what it refuses. */
public final class PromisesTest {
    private static final int NO = LensBench.NO, NONE = LensBench.NONE;
    private static final int POINT = 0, SOFT = 1, CUT = 2;
    private static final int FAR_OFF_MIN = Integer.MIN_VALUE, FAR_OFF_MAX = Integer.MAX_VALUE;
    private static final Checks checks = new Checks();

    private static void due(String call, long got, long want) {
        checks.due(call, got, want);
    }

    public static void main(String[] args) {
        constants();
        promise1NewObject();
        promise2Body();
        promise3Set();
        promise4Drop();
        promise5Field();
        promise6Bend();
        promise7From();
        promise8Cell();
        promise9Pictures();
        promise10Group();
        promise11Parity();
        promise12Critical();
        promise13Rings();
        promise14Brightest();
        promise15Delay();
        promise16Stretch();
        promise17Type();
        promise18Clear();
        promise19Read();
        promise20Pair();
        promise21Wipe();
        promise22Tolerance();
        promise23Fits();
        promise24Models();
        promise25Sure();
        promise26Spot();
        promise27Forget();
        promise28Bright();
        promise29Far();
        promise30Contradicts();
        promise31Filled();
        promise32Count();
        promise33Trace();
        checks.end();
    }

    private static void constants() {
        due("BAD", LensBench.BAD, -1);
        due("STATE", LensBench.STATE, -2);
        due("FULL", LensBench.FULL, -3);
        due("NONE", LensBench.NONE, -9);
        due("NO", LensBench.NO, -1000000000);
    }

    /** A new object with one body. */
    private static LensBench with(int kind, int x, int y, int weight) {
        LensBench bench = new LensBench();
        due("a first body", bench.body(kind, x, y, weight), 0);
        return bench;
    }

    /** With the field alone, g 8 and h 0, light comes from (8 x, 24 y). */
    private static LensBench squeezed() {
        LensBench bench = new LensBench();
        due("g of a new object", bench.field(0, 8), 0);
        return bench;
    }

    private static void promise1NewObject() {
        LensBench bench = new LensBench();
        for (int what = 0; what <= 5; what++) {
            due("new: count(" + what + ")", bench.count(what), 0);
        }
        due("new: trace()", bench.trace(), 0);
        due("new: from(7, -9, 0)", bench.from(7, -9, 0), 112);
        due("new: from(7, -9, 1)", bench.from(7, -9, 1), -144);
        due("new: bright(0, 0, NONE)", bench.bright(0, 0, NONE), NONE);
        due("new: read()", bench.read(), 0);
        due("new: tolerance(0, 8)", bench.tolerance(0, 8), 8);
        due("new: tolerance(1, 5)", bench.tolerance(1, 5), 5);
        due("new: field(0, 0)", bench.field(0, 0), 0);
        due("new: field(1, 0)", bench.field(1, 0), 0);
        due("new: contradicts()", bench.contradicts(), 0);
    }

    private static void promise2Body() {
        LensBench bench = new LensBench();
        int[][] refused = {{-1, 0, 0, 0}, {3, 0, 0, 0}, {0, -41, 0, 0}, {0, 41, 0, 0}, {0, 0, -41, 0}, {0, 0, 41, 0},
            {0, 0, 0, -1}, {0, 0, 0, 401}, {FAR_OFF_MIN, 0, 0, 0}, {0, FAR_OFF_MAX, 0, 0}, {0, 0, 0, FAR_OFF_MAX}};
        for (int[] told : refused) {
            due("body beyond", bench.body(told[0], told[1], told[2], told[3]), LensBench.BAD);
        }
        due("bodies after refusals", bench.count(0), 0);
        due("body(2, -40, 40, 400)", bench.body(2, -40, 40, 400), 0);
        due("body(0, 40, -40, 0)", bench.body(0, 40, -40, 0), 1);
        for (int i = 2; i < 8; i++) {
            due("body " + i, bench.body(1, i, 0, 1), i);
        }
        due("a ninth body", bench.body(0, 0, 0, 1), LensBench.FULL);
        due("a ninth body, beyond", bench.body(0, 0, 0, 401), LensBench.BAD);
        due("bodies", bench.count(0), 8);
        due("CORE at first", bench.set(7, 4, 1), 0);
        due("EDGE at first", bench.set(7, 5, 1), 90);
        due("KIND", bench.set(7, 0, 0), 1);
        bench.drop();
        due("body in the place of a dropped one", bench.body(1, 1, 1, 1), 7);
        due("its CORE at first", bench.set(7, 4, 1), 0);
        due("its EDGE at first", bench.set(7, 5, 1), 90);
    }

    private static void promise3Set() {
        LensBench bench = with(SOFT, 3, -4, 50);
        int[] was = {SOFT, 3, -4, 50, 0, 90};
        int[] least = {0, -40, -40, 0, 0, 0};
        int[] most = {2, 40, 40, 400, 900, 90};
        for (int what = 0; what < 6; what++) {
            due("set below, " + what, bench.set(0, what, least[what] - 1), NO);
            due("set above, " + what, bench.set(0, what, most[what] + 1), NO);
            due("set least, " + what, bench.set(0, what, least[what]), was[what]);
            due("set most, " + what, bench.set(0, what, most[what]), least[what]);
            due("set anew, " + what, bench.set(0, what, most[what]), most[what]);
        }
        due("set(-1, ..)", bench.set(-1, 0, 0), NO);
        due("set(1, ..)", bench.set(1, 0, 0), NO);
        due("set(0, -1, 0)", bench.set(0, -1, 0), NO);
        due("set(0, 6, 0)", bench.set(0, 6, 0), NO);
        due("set(MAX, ..)", bench.set(FAR_OFF_MAX, 0, 0), NO);
        due("set(0, MIN, 0)", bench.set(0, FAR_OFF_MIN, 0), NO);
        LensBench moved = with(POINT, 0, 0, 60);
        due("parity ahead of set", moved.parity(2, 0), -1);
        moved.set(0, 3, 0);
        due("parity after set", moved.parity(2, 0), 1);
        due("from after set", moved.from(2, 0, 0), 32);
    }

    private static void promise4Drop() {
        LensBench bench = new LensBench();
        due("drop() of none", bench.drop(), LensBench.STATE);
        bench.body(0, 0, 0, 1);
        bench.body(0, 4, 0, 160);
        due("from with both", bench.from(5, 0, 0), 80 - 3 - 2560);
        due("drop()", bench.drop(), 1);
        due("from without the latest", bench.from(5, 0, 0), 80 - 3);
        due("set of the dropped one", bench.set(1, 0, 0), NO);
        due("drop() again", bench.drop(), 0);
        due("drop() of none again", bench.drop(), LensBench.STATE);
        due("count(0)", bench.count(0), 0);
    }

    private static void promise5Field() {
        LensBench bench = new LensBench();
        due("field(0, -8)", bench.field(0, -8), 0);
        due("field(1, 8)", bench.field(1, 8), 0);
        due("field(0, 9)", bench.field(0, 9), NO);
        due("field(1, -9)", bench.field(1, -9), NO);
        due("field(2, 0)", bench.field(2, 0), NO);
        due("field(-1, 0)", bench.field(-1, 0), NO);
        due("from(3, 2, 0)", bench.from(3, 2, 0), 48 - (-24 + 16));
        due("from(3, 2, 1)", bench.from(3, 2, 1), 32 - (24 + 16));
        due("field(0, 8)", bench.field(0, 8), -8);
        due("field(1, -8)", bench.field(1, -8), 8);
        due("field(1, 0)", bench.field(1, 0), -8);
    }

    private static void promise6Bend() {
        LensBench bench = with(POINT, 1, 2, 60);
        bench.set(0, 4, 30);
        bench.set(0, 5, 5);
        due("POINT along x", bench.bend(POINT, 0, 4, 6, 0), 115);
        due("POINT along y", bench.bend(POINT, 0, 4, 6, 1), 153);
        due("POINT rounded toward 0", bench.bend(POINT, 0, -2, -2, 0), -115);
        due("POINT at its place", bench.bend(POINT, 0, 1, 2, 0), 0);
        due("SOFT", bench.bend(SOFT, 0, 4, 6, 0), 115 * 25 / 55);
        due("SOFT below 0", bench.bend(SOFT, 0, -2, -2, 1), -69);
        due("SOFT at its place", bench.bend(SOFT, 0, 1, 2, 1), 0);
        due("CUT on its edge", bench.bend(CUT, 0, 4, 6, 0), 115 * 25 / 55);
        due("CUT beyond its edge", bench.bend(CUT, 0, 6, 3, 0), 0);
        due("SOFT beyond the edge", bench.bend(SOFT, 0, 6, 3, 0), 960 * 5 / 26 * 26 / 56);
        bench.set(0, 4, 0);
        due("SOFT without core", bench.bend(SOFT, 0, 4, 6, 0), 115);
        due("SOFT, both 0", bench.bend(SOFT, 0, 1, 2, 0), 0);
        bench.set(0, 5, 0);
        due("CUT without edge at its place", bench.bend(CUT, 0, 1, 2, 0), 0);
        due("CUT without edge", bench.bend(CUT, 0, 2, 2, 0), 0);
        due("bend(-1, ..)", bench.bend(-1, 0, 0, 0, 0), NO);
        due("bend(3, ..)", bench.bend(3, 0, 0, 0, 0), NO);
        due("bend(0, -1, ..)", bench.bend(0, -1, 0, 0, 0), NO);
        due("bend(0, 1, ..)", bench.bend(0, 1, 0, 0, 0), NO);
        due("bend at x 61", bench.bend(0, 0, 61, 0, 0), NO);
        due("bend at y -61", bench.bend(0, 0, 0, -61, 0), NO);
        due("bend axis 2", bench.bend(0, 0, 0, 0, 2), NO);
        due("bend axis -1", bench.bend(0, 0, 0, 0, -1), NO);
        due("bend far out", bench.bend(0, 0, 60, -60, 0), 960 * 59 / (59 * 59 + 62 * 62));
        LensBench heavy = with(SOFT, 0, 0, 400);
        due("the greatest bend", heavy.bend(SOFT, 0, -1, 0, 0), -6400);
    }

    private static void promise7From() {
        LensBench bench = with(POINT, 1, 1, 40);
        bench.field(0, 3);
        bench.field(1, -2);
        due("from(4, 4, 0)", bench.from(4, 4, 0), -46);
        due("from(4, 4, 1)", bench.from(4, 4, 1), -22);
        bench.body(CUT, 4, 2, 10);
        due("from with two", bench.from(4, 4, 1), -22 - 80);
        bench.set(1, 5, 1);
        due("from with one cut away", bench.from(4, 4, 1), -22);
        due("from(61, 0, 0)", bench.from(61, 0, 0), NO);
        due("from(0, -61, 0)", bench.from(0, -61, 0), NO);
        due("from(0, 0, 2)", bench.from(0, 0, 2), NO);
        due("from(0, 0, -1)", bench.from(0, 0, -1), NO);
        due("from(-60, 60, 0)", new LensBench().from(-60, 60, 0), -960);
        due("from(-60, 60, 1)", new LensBench().from(-60, 60, 1), 960);
        due("from does not come to the trace", bench.trace(), 0);
    }

    private static void promise8Cell() {
        LensBench bench = squeezed();
        due("cell(3, 3, 0)", bench.cell(3, 3, 0), 2);
        due("cell(-3, 3, 0)", bench.cell(-3, 3, 0), -1);
        due("cell(-4, 3, 0)", bench.cell(-4, 3, 0), -2);
        due("cell(3, 3, 1)", bench.cell(3, 3, 1), 5);
        due("cell(0, -1, 1)", bench.cell(0, -1, 1), -1);
        due("cell(60, 60, 1)", bench.cell(60, 60, 1), 90);
        due("cell(61, 0, 0)", bench.cell(61, 0, 0), NO);
        due("cell(0, 61, 0)", bench.cell(0, 61, 0), NO);
        due("cell(0, 0, 2)", bench.cell(0, 0, 2), NO);
    }

    private static void promise9Pictures() {
        LensBench bench = squeezed();
        due("pictures(1, 0, 0)", bench.pictures(1, 0, 0), 2);
        due("pictures(1, 0, 1)", bench.pictures(1, 0, 1), 1);
        due("pictures(1, 1, 0)", bench.pictures(1, 1, 0), 0);
        due("pictures(1, 1, 1)", bench.pictures(1, 1, 1), 0);
        due("pictures(12, 36, 0)", bench.pictures(12, 36, 0), 2);
        due("pictures(-12, -36, 0)", bench.pictures(-12, -36, 0), 1);
        due("pictures(99, -99, 0)", bench.pictures(99, -99, 0), 0);
        due("pictures(100, 0, 0)", bench.pictures(100, 0, 0), LensBench.BAD);
        due("pictures(0, -100, 0)", bench.pictures(0, -100, 0), LensBench.BAD);
        due("pictures(0, 0, 2)", bench.pictures(0, 0, 2), LensBench.BAD);
        due("pictures(0, 0, -1)", bench.pictures(0, 0, -1), LensBench.BAD);
        LensBench ring = with(POINT, 0, 0, 60);
        due("ring: pictures(0, 0, 0)", ring.pictures(0, 0, 0), 19);
        due("ring: pictures(0, 0, 1)", ring.pictures(0, 0, 1), 15);
        LensBench rims = with(POINT, 0, 0, 288);
        rims.body(POINT, 0, 0, 288);
        // a ring through (24, 0) and (-24, 1): the rows' ends are no neighbours
        due("rims: cell(24, 0, 0)", rims.cell(24, 0, 0), 0);
        due("rims: cell(-24, 1, 1)", rims.cell(-24, 1, 1), 0);
        due("rims: pictures(0, 0, 1)", rims.pictures(0, 0, 1), 29);
        ring.drop();
        due("ring gone: pictures(0, 0, 0)", ring.pictures(0, 0, 0), 1);
    }

    private static void promise10Group() {
        LensBench bench = with(POINT, 0, 0, 60);
        int[][] firsts = {{7, -4, 1, 1}, {-7, -2, 2, -1}};
        for (int i = 0; i < firsts.length; i++) {
            for (int what = 0; what < 4; what++) {
                due("group(1, 0, " + i + ", " + what + ")", bench.group(1, 0, i, what), firsts[i][what]);
            }
        }
        due("group(1, 0, 4, 2)", bench.group(1, 0, 4, 2) > 0 ? 1 : 0, 1);
        due("group(1, 0, 5, 2)", bench.group(1, 0, 5, 2), NO);
        due("group(1, 0, -1, 2)", bench.group(1, 0, -1, 2), NO);
        due("group(1, 0, MAX, 2)", bench.group(1, 0, FAR_OFF_MAX, 2), NO);
        due("group(1, 0, 0, 4)", bench.group(1, 0, 0, 4), NO);
        due("group(1, 0, 0, -1)", bench.group(1, 0, 0, -1), NO);
        due("group(100, 0, 0, 0)", bench.group(100, 0, 0, 0), NO);
        due("group(0, -100, 0, 0)", bench.group(0, -100, 0, 0), NO);
        int sum = 0;
        for (int i = 0; i < 5; i++) {
            sum += bench.group(1, 0, i, 2);
        }
        due("pixels of all groups", sum, 11);
        LensBench wide = squeezed();
        due("squeezed: first x", wide.group(12, -36, 0, 0), 23);
        due("squeezed: first y", wide.group(12, -36, 0, 1), -24);
        due("squeezed: pixels", wide.group(12, -36, 0, 2), 2);
        due("squeezed: parity", wide.group(12, -36, 0, 3), 1);
    }

    private static void promise11Parity() {
        LensBench bench = with(POINT, 0, 0, 60);
        due("parity(0, 0)", bench.parity(0, 0), 1);
        due("parity(2, 0)", bench.parity(2, 0), -1);
        due("parity(24, 24)", bench.parity(24, 24), 1);
        due("parity(-24, -24)", bench.parity(-24, -24), 1);
        due("parity(25, 0)", bench.parity(25, 0), NO);
        due("parity(0, -25)", bench.parity(0, -25), NO);
        LensBench heavy = new LensBench();
        for (int i = 0; i < 8; i++) {
            heavy.body(POINT, 0, 0, 400);
        }
        // (32 - 102400) squared leaves an int
        due("parity beyond ints", heavy.parity(0, 0), 1);
        LensBench flat = with(POINT, 0, 0, 1);
        due("flat: from(1, 0, 0)", flat.from(1, 0, 0), 0);
        due("flat: parity(0, 0)", flat.parity(0, 0), 0);
        // g and h change by (16 - g, -h; -h, 16 + g): 256 less 128 at most
        LensBench sheared = squeezed();
        sheared.field(1, 8);
        due("sheared: parity", sheared.parity(-5, 9), 1);
    }

    private static void promise12Critical() {
        LensBench bench = with(POINT, 0, 0, 60);
        due("critical(7, 0)", bench.critical(7, 0), 1);
        due("critical(-24, -24)", bench.critical(-24, -24), 0);
        due("critical(24, 24)", bench.critical(24, 24), 0);
        due("critical(25, 0)", bench.critical(25, 0), LensBench.BAD);
        due("critical(0, -25)", bench.critical(0, -25), LensBench.BAD);
        for (int i = -24; i < 24; i++) {
            int askew = bench.parity(i, 3) != bench.parity(i + 1, 3) || bench.parity(i, 3) != bench.parity(i, 4) ? 1 : 0;
            due("critical(" + i + ", 3)", bench.critical(i, 3), askew);
        }
        LensBench corner = with(POINT, -24, -24, 2);
        due("corner: parity(-24, -24)", corner.parity(-24, -24), 1);
        due("corner: parity(-23, -24)", corner.parity(-23, -24), 0);
        due("corner: critical(-24, -24)", corner.critical(-24, -24), 1);
        int criticals = 0;
        for (int x = -24; x <= 24; x++) {
            LensBench column = with(POINT, -24, -24, 2);
            for (int y = -24; y <= 24; y++) {
                criticals += column.critical(x, y);
            }
        }
        due("corner: rings(0)", corner.rings(0), criticals);
        due("corner: rings(1)", corner.rings(1), 1);
        // Parity turns between x 24 and x 25 here, and 25 is no pixel's.
        LensBench rim = with(POINT, 24, 24, 60);
        due("rim: critical(24, 24)", rim.critical(24, 24), 0);
        due("rim: critical(24, 23)", rim.critical(24, 23), rim.parity(24, 23) != rim.parity(24, 24) ? 1 : 0);
        due("rim: critical(23, 24)", rim.critical(23, 24), rim.parity(23, 24) != rim.parity(24, 24) ? 1 : 0);
    }

    private static void promise13Rings() {
        LensBench bench = with(POINT, 0, 0, 60);
        int[] ring = {62, 2, 2213, 188};
        int[] plain = {0, 0, 2401, 0};
        for (int what = 0; what < 4; what++) {
            due("rings(" + what + ")", bench.rings(what), ring[what]);
            due("plain: rings(" + what + ")", new LensBench().rings(what), plain[what]);
        }
        due("rings(4)", bench.rings(4), LensBench.BAD);
        due("rings(-1)", bench.rings(-1), LensBench.BAD);
        bench.set(0, 3, 0);
        due("rings(0) without weight", bench.rings(0), 0);
        LensBench flat = with(POINT, 0, 0, 1);
        due("flat: neither 1 nor -1", 2401 - flat.rings(2) - flat.rings(3) > 0 ? 1 : 0, 1);
    }

    private static void promise14Brightest() {
        LensBench bench = with(POINT, 0, 0, 60);
        due("brightest(0)", bench.brightest(0), 19);
        due("brightest(1)", bench.brightest(1), 0);
        due("brightest(2)", bench.brightest(2), 0);
        due("brightest(3)", bench.brightest(3), NO);
        due("brightest(-1)", bench.brightest(-1), NO);
        LensBench plain = new LensBench();
        due("plain: the first pixel's own group", plain.group(-24, -24, 0, 2), 1);
        due("plain: brightest(0)", plain.brightest(0), 1);
        due("plain: brightest(1)", plain.brightest(1), -24);
        due("plain: brightest(2)", plain.brightest(2), -24);
        LensBench wide = squeezed();
        due("squeezed: brightest(0)", wide.brightest(0), 2);
        due("squeezed: brightest(1)", wide.brightest(1), -11);
        due("squeezed: brightest(2)", wide.brightest(2), -36);
    }

    private static void promise15Delay() {
        LensBench bench = new LensBench();
        due("along x", bench.delay(0, 0, 3, 0, 0, 0), 16 + 48 + 80);
        due("back along x", bench.delay(3, 0, 0, 0, 0, 0), -144);
        due("along y", bench.delay(5, -2, 5, 0, 0, 10), -48 - 16 - 40);
        due("to itself", bench.delay(5, 5, 5, 5, 100, 100), 0);
        due("farX", bench.delay(-24, 0, 24, 0, 2000, 0), -2L * 2000 * 48);
        due("farY back", bench.delay(0, 24, 0, -24, 0, -2000), -2L * 2000 * 48);
        LensBench lens = with(POINT, 1, 1, 40);
        lens.field(0, 3);
        lens.field(1, -2);
        due("x first, then y", lens.delay(0, 0, 5, 5, -2000, 2000), -863);
        long sum = 0;
        for (int x = 0; x < 5; x++) {
            sum += lens.from(x, 0, 0) + lens.from(x + 1, 0, 0) - 14;
        }
        for (int y = 0; y > -5; y--) {
            sum -= lens.from(5, y, 1) + lens.from(5, y - 1, 1) + 6;
        }
        due("by from()", lens.delay(0, 0, 5, -5, 7, -3), sum);
        int[][] refused = {{25, 0, 0, 0, 0, 0}, {0, -25, 0, 0, 0, 0}, {0, 0, -25, 0, 0, 0}, {0, 0, 0, 25, 0, 0},
            {0, 0, 0, 0, 2001, 0}, {0, 0, 0, 0, 0, -2001}, {FAR_OFF_MIN, 0, FAR_OFF_MAX, 0, 0, 0}};
        for (int[] way : refused) {
            due("delay beyond", lens.delay(way[0], way[1], way[2], way[3], way[4], way[5]), NO);
        }
    }

    private static void promise16Stretch() {
        LensBench bench = new LensBench();
        due("plain: stretch(1)", bench.stretch(1), 0);
        bench.field(0, 1);
        // a less d is -4 all over; half of it times (x x less y y) adds up to 0 over a square
        due("field: stretch(5)", bench.stretch(5), 0);
        LensBench lens = fourth();
        due("stretch(3)", lens.stretch(3), 64);
        due("stretch(0)", lens.stretch(0), NO);
        due("stretch(25)", lens.stretch(25), NO);
        due("stretch(-1)", lens.stretch(-1), NO);
        for (int n = 1; n <= 24; n++) {
            due("stretch(" + n + ")", lens.stretch(n),
                    Math.floorDiv(PicturesBoundaries.doubledStretch(PromisesTest::fourth, n), 128));
        }
    }

    private static LensBench fourth() {
        LensBench lens = new LensBench();
        lens.body(POINT, 1, 1, 40);
        lens.field(0, 3);
        lens.field(1, -2);
        return lens;
    }

    private static void promise17Type() {
        LensBench bench = new LensBench();
        due("type(65, 0)", bench.type(65, 0), LensBench.BAD);
        due("type(65, 9)", bench.type(65, 9), LensBench.BAD);
        due("type(65, -1)", bench.type(65, -1), LensBench.BAD);
        // "p1,2w3;" with bytes above that are not to come
        due("type of 7 bytes", bench.type(0xFF70312C3277333BL, 7), 7);
        due("read", bench.read(), 1);
        due("its weight", bench.count(5), 3);
        for (int i = 1; i <= 24; i++) {
            due("type of 8 bytes", bench.type(-1, 8), 8 * i);
        }
        due("type of 8 bytes to 200", bench.type(Long.MIN_VALUE, 8), 200);
        due("type of a 201st byte", bench.type(1, 1), LensBench.FULL);
        due("type of 9 bytes when full", bench.type(1, 9), LensBench.BAD);
        bench.clear();
        for (int i = 1; i <= 195; i++) {
            bench.type(0, 1);
        }
        due("type of 6 bytes to 201", bench.type(0, 6), LensBench.FULL);
        due("nothing changed", bench.count(4), 195);
        due("type of 5 bytes to 200", bench.type(0, 5), 200);
    }

    private static void promise18Clear() {
        LensBench bench = new LensBench();
        due("clear() of none", bench.clear(), 0);
        Boundaries.put(bench, "p1,1w");
        due("clear()", bench.clear(), 5);
        due("clear() again", bench.clear(), 0);
        Boundaries.put(bench, "p1,1w1;");
        due("read after clear()", bench.read(), 1);
    }

    /** What read() answers to a text; after a fault the text is cleared for the next. */
    private static void dueRead(LensBench bench, String text, int want) {
        Boundaries.put(bench, text);
        due("read() of " + text, bench.read(), want);
        due("bytes after read() of " + text, bench.clear(), want >= 0 ? 0 : text.length());
    }

    private static void promise19Read() {
        LensBench bench = new LensBench();
        dueRead(bench, "p1,2w3;s-4,5w60o7;c-40,40w400o900e90;", 3);
        int[][] told = {{0, 1, 2, 3, 0, 90}, {1, -4, 5, 60, 7, 90}, {2, -40, 40, 400, 900, 90}};
        for (int body = 0; body < 3; body++) {
            for (int what = 0; what < 6; what++) {
                due("told " + body + " " + what, bench.set(body, what, told[body][what]), told[body][what]);
            }
        }
        due("weights together", bench.count(5), 463);
        due("light by the told bodies", bench.from(2, 2, 0), 32 - 48 - bench.bend(1, 1, 2, 2, 0) - bench.bend(2, 2, 2, 2, 0));
        String[] faulty = {"x", "p", "p-", "p-0,1w1;", "p01,", "p41,", "p-41,", "p400", "p1;", "p1,", "p1,,", "p1,-0",
            "p1,2s", "p1,2w-1", "p1,2w401;", "p1,2w01", "p1,2w;", "p1,2w3o4;", "p1,2w3", "s1,2w3;", "s1,2w3o901;",
            "s1,2w3o9e1;", "c1,2w3o9;", "c1,2w3o9e91;", "c1,2w3o9e9", "c1,2w3o9e9;;", "p 1,2w3;", "p1,2w3; ", "P1,2w3;",
            "p1,2w3;p", "p1,2w400000", "p+1", "p1,2w0;p1,2w00;", "p--1", "s1,2w3o-1;", "c1,2w3o1e-1;", "p\u00b2"};
        int[] faults = {0, 1, 2, 2, 2, 2, 3, 3, 2, 3, 3, 4,
            4, 5, 7, 6, 5, 6, 6, 6, 9,
            8, 8, 10, 10, 11, 1, 7, 0,
            8, 8, 1, 13, 2, 7, 9, 1};
        due("faults of all texts", faults.length, faulty.length);
        for (int i = 0; i < faulty.length && i < faults.length; i++) {
            dueRead(bench, faulty[i], -10 - faults[i]);
        }
        due("bodies after faults", bench.count(0), 3);
        due("weights after faults", bench.count(5), 463);
        due("a feature after faults", bench.set(1, 4, 7), 7);
        dueRead(bench, "p0,0w0;p0,0w1;p0,0w2;p0,0w3;p0,0w4;p0,0w5;p0,0w6;p0,0w7;", 8);
        due("eight weights", bench.count(5), 28);
        dueRead(bench, "p0,0w0;p0,0w1;p0,0w2;p0,0w3;p0,0w4;p0,0w5;p0,0w6;p0,0w7;p0,0w8;", -66);
        dueRead(bench, "p0,0w0;p0,0w1;p0,0w2;p0,0w3;p0,0w4;p0,0w5;p0,0w6;p0,0w7;x", -66);
        due("weights after a ninth", bench.count(5), 28);
        dueRead(bench, "s-40,-40w0o0;", 1);
        due("core told as 0", bench.set(0, 4, 3), 0);
        due("edge of a soft one", bench.set(0, 5, 3), 90);
        dueRead(bench, "", 0);
        due("no bodies by no text", bench.drop(), LensBench.STATE);
        LensBench seen = new LensBench();
        due("pictures ahead of read", seen.pictures(0, 0, 0), 1);
        dueRead(seen, "p0,0w60;", 1);
        due("pictures after read", seen.pictures(0, 0, 0), 19);
    }

    private static void promise20Pair() {
        LensBench bench = new LensBench();
        int[][] refused = {{31, 0, 0, 0}, {0, -31, 0, 0}, {0, 0, 31, 0}, {0, 0, 0, -31}, {FAR_OFF_MIN, 0, 0, 0}};
        for (int[] places : refused) {
            due("pair beyond", bench.pair(places[0], places[1], places[2], places[3]), LensBench.BAD);
        }
        for (int i = 1; i <= 10; i++) {
            due("pair " + i, bench.pair(-30, 30, 30, -30), i);
        }
        due("pair 11", bench.pair(0, 0, 0, 0), LensBench.FULL);
        due("pair 11, beyond", bench.pair(31, 0, 0, 0), LensBench.BAD);
        due("pairs", bench.count(1), 10);
    }

    private static void promise21Wipe() {
        LensBench bench = with(POINT, 0, 0, 1);
        due("wipe() of none", bench.wipe(), 0);
        bench.pair(5, 0, 6, 0);
        bench.pair(5, 0, -6, 0);
        due("models with pairs", bench.models(1, 15, 0), 0);
        due("wipe()", bench.wipe(), 2);
        due("wipe() again", bench.wipe(), 0);
        due("models without pairs", bench.models(1, 15, 0), 16);
        due("pair after wipe()", bench.pair(0, 0, 0, 0), 1);
    }

    private static void promise22Tolerance() {
        LensBench bench = new LensBench();
        due("tolerance(0, 64)", bench.tolerance(0, 64), 8);
        due("tolerance(0, 0)", bench.tolerance(0, 0), 64);
        due("tolerance(0, 65)", bench.tolerance(0, 65), LensBench.BAD);
        due("tolerance(0, -1)", bench.tolerance(0, -1), LensBench.BAD);
        due("tolerance(1, 99)", bench.tolerance(1, 99), 5);
        due("tolerance(1, 0)", bench.tolerance(1, 0), 99);
        due("tolerance(1, 100)", bench.tolerance(1, 100), LensBench.BAD);
        due("tolerance(1, -1)", bench.tolerance(1, -1), LensBench.BAD);
        due("tolerance(2, 0)", bench.tolerance(2, 0), LensBench.BAD);
        due("tolerance(-1, 0)", bench.tolerance(-1, 0), LensBench.BAD);
        due("TOLERANCE stayed", bench.tolerance(0, 1), 0);
        due("NOISE stayed", bench.tolerance(1, 1), 0);
    }

    private static void promise23Fits() {
        LensBench bench = with(POINT, 0, 0, 200);
        due("fits without pairs", bench.fits(1, 12, 12), 1);
        // light of (4, 0) comes from 64 - 4 weight, that of (-2, 0) from -32 + 8 weight: 96 - 12 weight apart
        bench.pair(4, 0, -2, 0);
        for (int weight = 0; weight <= 12; weight++) {
            due("fits(1, 12, " + weight + ")", bench.fits(1, 12, weight), weight == 8 ? 1 : 0);
        }
        bench.tolerance(0, 12);
        due("within 12, 7", bench.fits(1, 12, 7), 1);
        due("within 12, 9", bench.fits(1, 12, 9), 1);
        due("within 12, 6", bench.fits(1, 12, 6), 0);
        bench.tolerance(0, 11);
        due("within 11, 7", bench.fits(1, 12, 7), 0);
        due("fits(1, 12, 13)", bench.fits(1, 12, 13), LensBench.BAD);
        due("fits(1, 12, -1)", bench.fits(1, 12, -1), LensBench.BAD);
        due("fits(0, ..)", bench.fits(0, 12, 0), LensBench.BAD);
        due("fits(2, ..)", bench.fits(2, 12, 0), LensBench.BAD);
        due("fits(1, 0, 0)", bench.fits(1, 0, 0), LensBench.BAD);
        due("fits(1, 16, 0)", bench.fits(1, 16, 0), LensBench.BAD);
        bench.body(SOFT, 0, 0, 7);
        bench.body(CUT, 0, 0, 0);
        bench.body(CUT, 0, 0, 0);
        due("others as they are: 1", bench.fits(1, 12, 1), 1);
        due("others as they are: 8", bench.fits(1, 12, 8), 0);
        due("two: 5 + 3 * 13", bench.fits(2, 12, 5 + 3 * 13), 1);
        due("two: 5 + 4 * 13", bench.fits(2, 12, 5 + 4 * 13), 0);
        due("three: 1 + 3 * 4 + 3 * 16", bench.fits(3, 3, 61), 0);
        due("three: 3 + 3 * 4 + 2 * 16", bench.fits(3, 3, 47), 1);
        due("three: the last", bench.fits(3, 15, 4095), 0);
        due("three: beyond", bench.fits(3, 15, 4096), LensBench.BAD);
        due("four", bench.fits(4, 1, 0), LensBench.BAD);
        bench.set(2, 3, 4);
        due("the others' weight matters", bench.fits(2, 12, 5 + 3 * 13), 0);
        LensBench alongY = with(POINT, 0, 0, 0);
        alongY.pair(0, 4, 0, 3);
        due("along y, too", alongY.fits(1, 12, 0), 0);
    }

    private static void promise24Models() {
        LensBench bench = with(POINT, 0, 0, 9);
        bench.body(SOFT, 6, 2, 5);
        bench.set(1, 4, 8);
        due("all of one", bench.models(1, 12, 0), 13);
        due("all of two", bench.models(2, 15, 0), 256);
        due("LEAST of all", bench.models(2, 12, 1), 0);
        due("TWINS without spots", bench.models(2, 12, 2), 1);
        due("NEXT LOOK without spots", bench.models(2, 12, 3), NONE);
        bench.pair(5, 0, -1, 0);
        due("none fits", bench.models(1, 12, 0), 0);
        due("LEAST of none", bench.models(1, 12, 1), NONE);
        due("some fit", bench.models(2, 6, 0), 5);
        bench.spot(3, 3);
        bench.spot(-8, 4);
        bench.spot(0, 9);
        due("TWINS", bench.models(2, 6, 2), 2);
        due("NEXT LOOK", bench.models(2, 6, 3), 0);
        due("TWINS of none", bench.models(1, 12, 2), 0);
        due("NEXT LOOK of none", bench.models(1, 12, 3), NONE);
        bench.tolerance(0, 0);
        due("one fits", bench.models(2, 15, 0), 1);
        due("LEAST of one", bench.models(2, 15, 1), 5);
        due("TWINS of one", bench.models(2, 15, 2), 1);
        due("NEXT LOOK for one", bench.models(2, 15, 3), 0);
        due("models(2, 15, 4)", bench.models(2, 15, 4), LensBench.BAD);
        due("models(2, 15, -1)", bench.models(2, 15, -1), LensBench.BAD);
        due("models(3, 4, 0)", bench.models(3, 4, 0), LensBench.BAD);
        due("models(0, 4, 0)", bench.models(0, 4, 0), LensBench.BAD);
        due("models(2, 0, 0)", bench.models(2, 0, 0), LensBench.BAD);
        due("models(2, 16, 0)", bench.models(2, 16, 0), LensBench.BAD);
        models24Ties();
        models24Changes();
        models24Looks();
    }

    private static void models24Ties() {
        LensBench bench = new LensBench();
        for (int i = 0; i < 3; i++) {
            bench.body(POINT, 0, 0, 0);
        }
        bench.pair(4, 0, -2, 0);
        // weights together must be 8: of the models with 8 together the least number has BODY 0 greatest
        due("three alike", bench.models(3, 15, 0), 45);
        due("three alike: LEAST", bench.models(3, 15, 1), 8);
        due("three alike, up to 6: LEAST", bench.models(3, 6, 1), 6 + 2 * 7);
        due("three alike: TWINS", bench.models(3, 15, 2), 1);
        bench.wipe();
        due("all of three", bench.models(3, 15, 0), 4096);
        bench.set(1, 1, 9);
        bench.set(2, 2, 9);
        for (int i = 0; i < 8; i++) {
            bench.spot(i, i % 3);
        }
        due("all of three: TWINS and their number", bench.models(3, 15, 2) > 2000 ? 1 : 0, 1);
        for (int i = 0; i < 10; i++) {
            bench.pair(i, 0, i, 0);
        }
        due("ten pairs of one place each", bench.models(3, 15, 0), 4096);
        bench.wipe();
        for (int i = 0; i < 9; i++) {
            bench.pair(i, 0, i, 0);
        }
        bench.pair(30, 30, -30, -30);
        due("the tenth pair fails all", bench.models(3, 15, 0), 0);
    }

    /** What is asked again with the same n and MOST must follow each change in between. */
    private static void models24Changes() {
        LensBench bench = with(POINT, 0, 0, 0);
        due("changes: all", bench.models(1, 15, 0), 16);
        // 96 - 12 weight apart
        bench.pair(4, 0, -2, 0);
        due("changes: after pair", bench.models(1, 15, 0), 1);
        bench.tolerance(0, 12);
        due("changes: after tolerance", bench.models(1, 15, 0), 3);
        bench.tolerance(1, 0);
        due("changes: after noise", bench.models(1, 15, 0), 3);
        bench.body(POINT, 0, 0, 2);
        due("changes: after body, LEAST", bench.models(1, 15, 1), 5);
        bench.set(1, 3, 3);
        due("changes: after set, LEAST", bench.models(1, 15, 1), 4);
        bench.drop();
        due("changes: after drop, LEAST", bench.models(1, 15, 1), 7);
        bench.field(0, 4);
        // 24 less: 72 - 12 weight
        due("changes: after field, LEAST", bench.models(1, 15, 1), 5);
        bench.field(0, 0);
        Boundaries.put(bench, "p0,0w1;p0,0w6;");
        bench.read();
        due("changes: after read, LEAST", bench.models(1, 15, 1), 1);
        due("changes: TWINS", bench.models(1, 15, 2), 1);
        bench.spot(1, 0);
        due("changes: after spot, TWINS", bench.models(1, 15, 2), 3);
        bench.forget();
        due("changes: after forget, TWINS", bench.models(1, 15, 2), 1);
        bench.spot(20, 20);
        due("changes: after another spot, TWINS", bench.models(1, 15, 2), 1);
        bench.wipe();
        due("changes: after wipe", bench.models(1, 15, 0), 16);
        due("changes: sure after wipe", bench.sure(1, 15, 0), NONE);
    }

    private static void models24Looks() {
        LensBench bench = with(POINT, 0, 0, 0);
        bench.spot(20, 0);
        bench.spot(1, 0);
        bench.spot(0, 1);
        // at (1, 0) each weight moves the cell by one; at (20, 0) by less than one in all
        due("NEXT LOOK: the sharper", bench.models(1, 15, 3), 1);
        due("TWINS: all apart", bench.models(1, 15, 2), 16);
        bench.forget();
        bench.spot(20, 0);
        due("NEXT LOOK: the only one", bench.models(1, 15, 3), 0);
        // 320 - 240 w / 300, by 16: 20 up to weight 10, less beyond
        due("TWINS: few heaps", bench.models(1, 15, 2), 2);
        due("TWINS: one heap", bench.models(1, 9, 2), 1);
    }

    private static void promise25Sure() {
        LensBench bench = new LensBench();
        bench.body(POINT, 0, 0, 0);
        bench.body(POINT, 10, 0, 0);
        due("not sure of all", bench.sure(1, 5, 0), NONE);
        bench.pair(4, 0, -2, 0);
        due("sure of the only one", bench.sure(1, 15, 0), 8);
        due("none fits", bench.sure(1, 5, 0), NONE);
        bench.set(1, 1, 0);
        due("two alike: 0", bench.sure(2, 15, 0), NONE);
        due("two alike: 1", bench.sure(2, 15, 1), NONE);
        due("two alike up to 4: 0", bench.sure(2, 4, 0), 4);
        due("two alike up to 4: 1", bench.sure(2, 4, 1), 4);
        due("sure(2, 4, 2)", bench.sure(2, 4, 2), LensBench.BAD);
        due("sure(1, 4, 1)", bench.sure(1, 4, 1), LensBench.BAD);
        due("sure(2, 4, -1)", bench.sure(2, 4, -1), LensBench.BAD);
        due("sure(3, 4, 0)", bench.sure(3, 4, 0), LensBench.BAD);
        due("sure(0, 4, 0)", bench.sure(0, 4, 0), LensBench.BAD);
        due("sure(2, 0, 0)", bench.sure(2, 0, 0), LensBench.BAD);
        due("sure(2, 16, 0)", bench.sure(2, 16, 0), LensBench.BAD);
    }

    private static void promise26Spot() {
        LensBench bench = new LensBench();
        due("spot(31, 0)", bench.spot(31, 0), LensBench.BAD);
        due("spot(0, -31)", bench.spot(0, -31), LensBench.BAD);
        for (int i = 1; i <= 8; i++) {
            due("spot " + i, bench.spot(30, -30), i);
        }
        due("spot 9", bench.spot(0, 0), LensBench.FULL);
        due("spot 9, beyond", bench.spot(0, 31), LensBench.BAD);
        due("spots", bench.count(2), 8);
    }

    private static void promise27Forget() {
        LensBench bench = with(POINT, 0, 0, 0);
        due("forget() of none", bench.forget(), 0);
        bench.spot(1, 0);
        due("TWINS with a spot", bench.models(1, 15, 2), 16);
        due("forget()", bench.forget(), 1);
        due("TWINS without", bench.models(1, 15, 2), 1);
        due("forget() again", bench.forget(), 0);
        due("spot after forget()", bench.spot(0, 0), 1);
    }

    private static void promise28Bright() {
        LensBench bench = new LensBench();
        due("bright(-24, 24, 0)", bench.bright(-24, 24, 0), NONE);
        due("bright(-24, 24, 99)", bench.bright(-24, 24, 99), 0);
        due("bright(-24, 24, NONE)", bench.bright(-24, 24, NONE), 99);
        due("bright(-24, 24, 7)", bench.bright(-24, 24, 7), NONE);
        due("bright(25, 0, 1)", bench.bright(25, 0, 1), -2);
        due("bright(0, -25, 1)", bench.bright(0, -25, 1), -2);
        due("bright(0, 0, 100)", bench.bright(0, 0, 100), -2);
        due("bright(0, 0, -1)", bench.bright(0, 0, -1), -2);
        due("bright(0, 0, -8)", bench.bright(0, 0, -8), -2);
        due("bright(0, 0, -10)", bench.bright(0, 0, -10), -2);
        due("told pixels", bench.count(3), 1);
        due("bright(0, 0, NONE)", bench.bright(0, 0, NONE), NONE);
    }

    private static void promise29Far() {
        LensBench bench = squeezed();
        due("far of nothing told", bench.far(1, 0), NONE);
        bench.bright(1, 0, 10);
        due("far of one told of two", bench.far(1, 0), 10);
        bench.bright(2, 0, 15);
        due("far rounded down", bench.far(1, 0), 12);
        due("far of the cell next to it", bench.far(0, 0), NONE);
        bench.bright(1, 0, NONE);
        due("far of the other one", bench.far(1, 0), 15);
        bench.bright(2, 0, 0);
        due("far of a dark one", bench.far(1, 0), 0);
        bench.field(0, 0);
        due("far after the field", bench.far(2, 0), 0);
        due("far of its former cell", bench.far(1, 0), NONE);
        due("far(100, 0)", bench.far(100, 0), LensBench.BAD);
        due("far(0, -100)", bench.far(0, -100), LensBench.BAD);
        due("far(-99, 99)", bench.far(-99, 99), NONE);
    }

    private static void promise30Contradicts() {
        LensBench bench = squeezed();
        bench.bright(1, 0, 10);
        bench.bright(2, 0, 15);
        due("by 5", bench.contradicts(), 0);
        bench.bright(2, 0, 16);
        due("by 6", bench.contradicts(), 1);
        bench.bright(4, 4, 99);
        bench.bright(3, 4, 0);
        due("two cells", bench.contradicts(), 2);
        bench.tolerance(1, 6);
        due("noise 6", bench.contradicts(), 1);
        bench.tolerance(1, 99);
        due("noise 99", bench.contradicts(), 0);
        bench.tolerance(1, 0);
        bench.bright(4, 4, NONE);
        due("one not told", bench.contradicts(), 1);
        bench.bright(4, 4, 99);
        due("told again", bench.contradicts(), 2);
        bench.bright(3, 4, NONE);
        bench.bright(4, 4, NONE);
        due("one cell no longer told", bench.contradicts(), 1);
        bench.field(0, 0);
        due("a cell for each", bench.contradicts(), 0);
        LensBench corner = new LensBench();
        // light comes from (9 x, 23 y)
        corner.field(0, 7);
        corner.bright(-24, -24, 0);
        corner.bright(-23, -24, 6);
        due("corner: cell(-24, -24, 0)", corner.cell(-24, -24, 0), -13);
        due("corner: cell(-23, -24, 0)", corner.cell(-23, -24, 0), -13);
        due("corner: contradicts()", corner.contradicts(), 1);
    }

    private static void promise31Filled() {
        LensBench bench = squeezed();
        due("nothing told", bench.filled(1, 0), NONE);
        bench.bright(1, 0, 11);
        due("its own", bench.filled(1, 0), 11);
        due("its cell's", bench.filled(2, 0), 11);
        due("of another cell", bench.filled(3, 0), NONE);
        bench.bright(2, 0, 20);
        due("its own still", bench.filled(1, 0), 11);
        due("still not told elsewhere", bench.count(3), 2);
        due("filled(25, 0)", bench.filled(25, 0), LensBench.BAD);
        due("filled(0, -25)", bench.filled(0, -25), LensBench.BAD);
        LensBench heavy = new LensBench();
        heavy.body(POINT, 0, 0, 400);
        due("a cell far out", heavy.cell(1, 0, 0), -399);
        due("filled of a far cell", heavy.filled(1, 0), NONE);
        LensBench corner = new LensBench();
        corner.field(0, 8);
        corner.bright(-22, 0, 4);
        due("filled at the rim", corner.filled(-23, 0), 4);
        corner.bright(-24, -24, 9);
        due("far of the first pixel", corner.far(-12, -36), 9);
        heavy.bright(1, 0, 3);
        due("filled of a far cell, told", heavy.filled(1, 0), 3);
    }

    private static void promise32Count() {
        LensBench bench = with(POINT, 0, 0, 400);
        bench.body(SOFT, 0, 0, 17);
        bench.pair(0, 0, 0, 0);
        bench.spot(0, 0);
        bench.spot(0, 0);
        bench.bright(0, 0, 0);
        bench.bright(1, 1, 99);
        bench.bright(1, 1, 98);
        bench.type(0, 4);
        int[] want = {2, 1, 2, 2, 4, 417};
        for (int what = 0; what < 6; what++) {
            due("count(" + what + ")", bench.count(what), want[what]);
        }
        due("count(6)", bench.count(6), LensBench.BAD);
        due("count(-1)", bench.count(-1), LensBench.BAD);
        due("count(MIN)", bench.count(FAR_OFF_MIN), LensBench.BAD);
    }

    private static void promise33Trace() {
        LensBench bench = with(POINT, 0, 0, 60);
        bench.set(0, 4, 30);
        bench.bend(POINT, 0, 0, 0, 0);
        due("POINT at its place", bench.trace(), 1);
        bench.bend(POINT, 0, 3, 4, 0);
        due("POINT", bench.trace(), 2);
        bench.bend(SOFT, 0, 3, 4, 1);
        due("SOFT asks up", bench.trace(), 13);
        bench.bend(CUT, 0, 3, 4, 1);
        due("CUT asks up twice", bench.trace(), 124);
        bench.set(0, 5, 5);
        bench.bend(CUT, 0, 3, 4, 1);
        due("CUT on its edge", bench.trace(), 235);
        bench.bend(CUT, 0, 3, 5, 1);
        due("CUT beyond its edge asks up, too", bench.trace(), 346);
        bench.bend(SOFT, 0, 0, 0, 1);
        due("SOFT at its place, with a core", bench.trace(), 357);
        bench.set(0, 4, 0);
        bench.bend(SOFT, 0, 0, 0, 1);
        due("SOFT where both are 0 asks up, too", bench.trace(), 368);
        bench.bend(CUT, 0, 0, 0, 0);
        due("CUT where SOFT answers 0", bench.trace(), 479);
        bench.set(0, 5, 0);
        bench.bend(CUT, 0, 60, -60, 1);
        due("CUT far beyond an edge of 0", bench.trace(), 590);
        bench.bend(3, 0, 0, 0, 0);
        bench.bend(0, 1, 0, 0, 0);
        bench.bend(0, 0, 61, 0, 0);
        bench.bend(0, 0, 0, 0, 2);
        due("refused ones", bench.trace(), 590);
        bench.from(3, 3, 0);
        bench.rings(1);
        bench.models(1, 5, 0);
        due("other calls", bench.trace(), 590);
    }
}

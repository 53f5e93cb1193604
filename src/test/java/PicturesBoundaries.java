/** Promises 9 to 16: pictures of cells and their groups, parities, rings, delays, stretch. */
final class PicturesBoundaries extends Boundaries {
    private static final Call PICTURES = (bench, v) -> bench.pictures(v[0], v[1], v[2]);
    private static final Call GROUP = (bench, v) -> bench.group(v[0], v[1], v[2], v[3]);
    private static final Call PARITY = (bench, v) -> bench.parity(v[0], v[1]);
    private static final Call CRITICAL = (bench, v) -> bench.critical(v[0], v[1]);
    private static final Call RINGS = (bench, v) -> bench.rings(v[0]);
    private static final Call BRIGHTEST = (bench, v) -> bench.brightest(v[0]);
    private static final Call DELAY = (bench, v) -> bench.delay(v[0], v[1], v[2], v[3], v[4], v[5]);
    private static final Call STRETCH = (bench, v) -> bench.stretch(v[0]);

    private static final Range[] OF_PIXEL = {new Range("x", -24, 24, 3), new Range("y", -24, 24, -7)};

    PicturesBoundaries(Checks checks) {
        super(checks);
    }

    /** A body beside a corner of the plane, cut so closely that it moves the light of one pixel alone. */
    private static LensBench oneMoved(int bodyX, int bodyY, int weight) {
        LensBench bench = new LensBench();
        bench.body(CUT, bodyX, bodyY, weight);
        bench.set(0, EDGE, 1);
        return bench;
    }

    private static void add(LensBench bench, int x, int y, int weight, int edge) {
        int number = bench.body(CUT, x, y, weight);
        bench.set(number, EDGE, edge);
    }

    /** With light along y from 8 y, the ends of two rows next to one another are moved to the cell (0, 0). */
    private static LensBench endsOfRows() {
        LensBench bench = withField(-8, 0);
        add(bench, 23, -1, 36, 1);
        add(bench, -23, 0, 36, 1);
        return bench;
    }

    /** With light along x from 8 x, a pixel of the first row and one of the last are moved to the cell (0, 0). */
    private static LensBench endsOfColumns() {
        LensBench bench = withField(8, 0);
        add(bench, 0, 23, 36, 1);
        add(bench, -1, -23, 36, 1);
        return bench;
    }

    private static LensBench atEachRim() {
        LensBench bench = new LensBench();
        bench.body(POINT, 25, 3, 40);
        bench.body(POINT, -25, -2, 50);
        bench.body(POINT, 5, 26, 60);
        bench.body(POINT, -7, -25, 70);
        bench.body(SOFT, 24, 24, 300);
        bench.body(POINT, -24, -24, 20);
        return bench;
    }

    private static LensBench atTheFirstPixel() {
        LensBench bench = new LensBench();
        bench.body(POINT, -24, -24, 2);
        return bench;
    }

    private static int ringOf60(int x, int y, int i, int what) {
        SlowBench slow = new SlowBench();
        slow.body(POINT, 0, 0, 60);
        return slow.group(x, y, i, what);
    }

    // ---- promise 9

    void promise9Ends() {
        ends(Boundaries::plain, PICTURES, v -> Math.abs(v[0]) <= 24 && Math.abs(v[1]) <= 24 ? 1 : 0, BAD,
                new Range("x", -99, 99, 3), new Range("y", -99, 99, -7), new Range("what", 0, 1, 0));
        ends(Boundaries::rich, PICTURES, v -> 0, BAD,
                new Range("x", -99, 99, 98), new Range("y", -99, 99, -98), new Range("what", 0, 1, 1));
    }

    void promise9TheLastCellsThatMayBeAsked() {
        int[][] besides = {{25, 0}, {-25, 0}, {0, 25}, {0, -25}};
        for (int[] beside : besides) {
            int x = Integer.signum(beside[0]);
            int y = Integer.signum(beside[1]);
            for (int what = 0; what <= 1; what++) {
                due("cell 99", oneMoved(beside[0], beside[1], 75).pictures(99 * x, 99 * y, what), 1);
                due("cell 99, its pixel beyond", oneMoved(beside[0], beside[1], 76).pictures(99 * x, 99 * y, what), 0);
                due("cell 100", oneMoved(beside[0], beside[1], 76).pictures(100 * x, 100 * y, what), BAD);
            }
        }
    }

    void promise9NoPictures() {
        due("PIXELS of none", plain().pictures(25, 0, 0), 0);
        due("GROUPS of none", plain().pictures(25, 0, 1), 0);
        due("PIXELS of none", plain().pictures(0, -25, 0), 0);
        due("GROUPS of none", plain().pictures(0, -25, 1), 0);
    }

    void promise9CornersArePixels() {
        for (int x = -24; x <= 24; x += 48) {
            for (int y = -24; y <= 24; y += 48) {
                due("PIXELS of a corner's cell", plain().pictures(x, y, 0), 1);
                due("GROUPS of a corner's cell", plain().pictures(x, y, 1), 1);
            }
        }
    }

    void promise9EndsOfRowsAreNoNeighbours() {
        due("PIXELS", endsOfRows().pictures(0, 0, 0), 4);
        due("GROUPS", endsOfRows().pictures(0, 0, 1), 3);
        due("PIXELS, columns", endsOfColumns().pictures(0, 0, 0), 4);
        due("GROUPS, columns", endsOfColumns().pictures(0, 0, 1), 3);
    }

    void promise9AskewOnesJoin() {
        LensBench falling = withField(0, 8);
        due("(-1, -1) and (0, 0)", falling.pictures(0, 0, 0), 2);
        due("in one", falling.pictures(0, 0, 1), 1);
        LensBench rising = withField(0, -7);
        due("(5, -5) and (6, -6)", rising.pictures(3, -3, 0), 2);
        due("cell of (6, -6)", rising.cell(6, -6, 0), 3);
        due("in one", rising.pictures(3, -3, 1), 1);
    }

    void promise9OneBetweenPartsThem() {
        LensBench joined = plain();
        add(joined, 10, -5, 1, 1);
        due("PIXELS of a plus", joined.pictures(10, -5, 0), 5);
        due("GROUPS of a plus", joined.pictures(10, -5, 1), 1);
        LensBench parted = plain();
        add(parted, 23, 0, 2, 1);
        add(parted, 25, 0, 2, 1);
        due("(22, 0) and (24, 0)", parted.pictures(24, 0, 0), 2);
        due("apart", parted.pictures(24, 0, 1), 2);
    }

    // ---- promise 10

    void promise10Ends() {
        ends(Boundaries::plain, GROUP, v -> v[3] < 2 ? v[v[3]] : 1, NO,
                OF_PIXEL[0], OF_PIXEL[1], new Range("i", 0, 0, 0), new Range("what", 0, 3, 2));
    }

    void promise10TheLastGroup() {
        due("how many", with(POINT, 60).pictures(0, 0, 1), 15);
        ends(() -> with(POINT, 60), (bench, v) -> bench.group(0, 0, v[0], v[1]), v -> ringOf60(0, 0, v[0], v[1]), NO,
                new Range("i", 0, 14, 7), new Range("what", 0, 3, 2));
    }

    void promise10NoPictures() {
        refused(Boundaries::plain, "group of none", GROUP, NO, 25, 0, 0, 2);
        refused(Boundaries::plain, "group of none", GROUP, NO, 99, -99, 0, 0);
        refused(Boundaries::plain, "group of none", GROUP, NO, 25, 0, -1, 2);
    }

    void promise10TheLastCellsThatMayBeAsked() {
        for (int sign = -1; sign <= 1; sign += 2) {
            due("x of cell 99", oneMoved(25 * sign, 0, 75).group(99 * sign, 0, 0, 0), 24 * sign);
            due("cell 100", oneMoved(25 * sign, 0, 76).group(100 * sign, 0, 0, 0), NO);
            due("y of cell 99", oneMoved(0, 25 * sign, 75).group(0, 99 * sign, 0, 1), 24 * sign);
            due("cell 100", oneMoved(0, 25 * sign, 76).group(0, 100 * sign, 0, 1), NO);
        }
    }

    void promise10NumberedRowByRow() {
        int[][] rows = {{0, -1, 2}, {24, -1, 1}, {-24, 0, 1}};
        int[][] columns = {{-1, -24, 1}, {-1, 0, 2}, {0, 24, 1}};
        for (int i = 0; i < 3; i++) {
            for (int what = 0; what <= 2; what++) {
                due("rows: GROUP " + i + ", " + what, endsOfRows().group(0, 0, i, what), rows[i][what]);
                due("columns: GROUP " + i + ", " + what, endsOfColumns().group(0, 0, i, what), columns[i][what]);
            }
        }
        due("rows: one more", endsOfRows().group(0, 0, 3, 2), NO);
    }

    void promise10CornersAreFirstPixels() {
        for (int x = -24; x <= 24; x += 48) {
            for (int y = -24; y <= 24; y += 48) {
                due("x", plain().group(x, y, 0, 0), x);
                due("y", plain().group(x, y, 0, 1), y);
                due("PIXELS", plain().group(x, y, 0, 2), 1);
                due("PARITY", plain().group(x, y, 0, 3), 1);
            }
        }
    }

    void promise10EachParity() {
        due("1", with(POINT, 60).group(1, 0, 0, 3), 1);
        due("-1", with(POINT, 60).group(1, 0, 1, 3), -1);
        LensBench flat = plain();
        flat.body(POINT, -24, -24, 2);
        due("PARITY of (-23, -24)", flat.parity(-23, -24), 0);
        int x = flat.cell(-23, -24, 0);
        int y = flat.cell(-23, -24, 1);
        due("its GROUP's first x", flat.group(x, y, 0, 0), -23);
        due("its GROUP's first y", flat.group(x, y, 0, 1), -24);
        due("0", flat.group(x, y, 0, 3), 0);
    }

    // ---- promise 11

    private static int parityByFrom(LensBench bench, int x, int y) {
        long a = bench.from(x + 1, y, 0) - bench.from(x - 1, y, 0);
        long b = bench.from(x + 1, y, 1) - bench.from(x - 1, y, 1);
        long c = bench.from(x, y + 1, 0) - bench.from(x, y - 1, 0);
        long d = bench.from(x, y + 1, 1) - bench.from(x, y - 1, 1);
        return Long.signum(a * d - b * c);
    }

    void promise11Ends() {
        ends(Boundaries::plain, PARITY, v -> 1, NO, OF_PIXEL);
        ends(Boundaries::rich, PARITY, v -> parityByFrom(rich(), v[0], v[1]), NO, OF_PIXEL);
    }

    void promise11RimsLookBeyond() {
        int[] of = new int[3];
        for (int along = -24; along <= 24; along++) {
            int[][] pixels = {{24, along}, {-24, along}, {along, 24}, {along, -24}};
            for (int[] pixel : pixels) {
                int want = parityByFrom(atEachRim(), pixel[0], pixel[1]);
                due("PARITY of " + pixel[0] + ", " + pixel[1], atEachRim().parity(pixel[0], pixel[1]), want);
                of[want + 1]++;
            }
        }
        due("some are 1 and some -1", of[0] > 0 && of[2] > 0 ? 1 : 0, 1);
    }

    void promise11Exactly0() {
        due("(0, 0) between lights from 0", with(POINT, 1).parity(0, 0), 0);
        due("(0, 0) with weight 0", with(POINT, 0).parity(0, 0), 1);
        due("(0, 0) with weight 2", with(POINT, 2).parity(0, 0), 1);
    }

    void promise11BeyondInts() {
        LensBench heavy = plain();
        for (int i = 0; i < 8; i++) {
            heavy.body(POINT, 0, 0, 400);
        }
        due("102368 by 102368", heavy.parity(0, 0), 1);
        due("beside them", heavy.parity(1, 0), parityByFrom(heavy, 1, 0));
        due("askew of them", heavy.parity(1, 1), parityByFrom(heavy, 1, 1));
        LensBench twins = plain();
        for (int i = 0; i < 8; i++) {
            twins.body(POINT, i % 2 * 2, 0, 400);
        }
        for (int x = -2; x <= 4; x++) {
            due("between two heaps", twins.parity(x, 0), parityByFrom(twins, x, 0));
        }
    }

    // ---- promise 12

    private static int criticalByParity(LensBench bench, int x, int y) {
        boolean right = x < 24 && bench.parity(x + 1, y) != bench.parity(x, y);
        boolean below = y < 24 && bench.parity(x, y + 1) != bench.parity(x, y);
        return right || below ? 1 : 0;
    }

    void promise12Ends() {
        ends(Boundaries::plain, CRITICAL, v -> 0, BAD, OF_PIXEL);
        ends(Boundaries::rich, CRITICAL, v -> criticalByParity(rich(), v[0], v[1]), BAD, OF_PIXEL);
        Scene firstCorner = () -> atTheFirstPixel();
        due("of the first PIXEL", firstCorner.made().critical(-24, -24), 1);
        ends(firstCorner, CRITICAL, v -> criticalByParity(firstCorner.made(), v[0], v[1]), BAD, OF_PIXEL);
    }

    void promise12AsFarAsTheseArePixels() {
        int critical = 0;
        for (int along = -24; along <= 24; along++) {
            int[][] pixels = {{24, along}, {-24, along}, {along, 24}, {along, -24}};
            for (int[] pixel : pixels) {
                LensBench bench = atEachRim();
                int want = criticalByParity(bench, pixel[0], pixel[1]);
                due("CRITICAL " + pixel[0] + ", " + pixel[1], bench.critical(pixel[0], pixel[1]), want);
                critical += want;
            }
        }
        due("some are", critical > 0 ? 1 : 0, 1);
    }

    void promise12TheLastPixelNeverIs() {
        due("plain", plain().critical(24, 24), 0);
        due("at each rim", atEachRim().critical(24, 24), 0);
        for (int weight = 0; weight <= 400; weight += 20) {
            LensBench bench = plain();
            bench.body(POINT, 24, 24, weight);
            due("a body there of weight " + weight, bench.critical(24, 24), 0);
        }
    }

    void promise12RowsDoNotGoOn() {
        LensBench bench = plain();
        bench.body(POINT, -24, 0, 60);
        int differing = 0;
        for (int y = -24; y < 24; y++) {
            differing += bench.parity(24, y) != bench.parity(-24, y + 1) ? 1 : 0;
            due("PARITY of (24, " + y + ")", bench.parity(24, y), 1);
            due("CRITICAL (24, " + y + ")", bench.critical(24, y), 0);
        }
        due("some rows begin with another PARITY", differing > 0 ? 1 : 0, 1);
    }

    void promise12ParityOf0IsAnother() {
        LensBench bench = with(POINT, 1);
        due("PARITY of (-1, 0)", bench.parity(-1, 0), parityByFrom(bench, -1, 0));
        due("PARITY of (0, 0)", bench.parity(0, 0), 0);
        due("CRITICAL (0, 0)", bench.critical(0, 0), criticalByParity(bench, 0, 0));
        due("CRITICAL (-1, 0)", bench.critical(-1, 0), 1);
    }

    // ---- promise 13

    void promise13Ends() {
        ends(Boundaries::plain, RINGS, v -> v[0] == 2 ? 2401 : 0, BAD, new Range("what", 0, 3, 1));
        int[] ring = {62, 2, 2213, 188};
        ends(() -> with(POINT, 60), RINGS, v -> ring[v[0]], BAD, new Range("what", 0, 3, 2));
    }

    void promise13NoneIsCritical() {
        due("PIXELS", withBodies(8, POINT, 0).rings(0), 0);
        due("RINGS", withBodies(8, POINT, 0).rings(1), 0);
        due("PIXELS of PARITY 1", withBodies(8, POINT, 0).rings(2), 2401);
        due("PIXELS of PARITY -1", withBodies(8, POINT, 0).rings(3), 0);
    }

    void promise13EndsOfRowsAreNoNeighbours() {
        LensBench bench = plain();
        bench.body(POINT, 24, -6, 7);
        bench.body(POINT, -24, 0, 7);
        due("RINGS at both rims", bench.rings(1), 2);
        bench.drop();
        due("RINGS at the right rim", bench.rings(1), 1);
    }

    void promise13ParityOf0IsNeither() {
        LensBench flat = with(POINT, 1);
        int of0 = 0;
        for (int x = -4; x <= 4; x++) {
            for (int y = -4; y <= 4; y++) {
                of0 += flat.parity(x, y) == 0 ? 1 : 0;
            }
        }
        due("some are of PARITY 0", of0 > 0 ? 1 : 0, 1);
        due("all PIXELS", flat.rings(2) + flat.rings(3) + of0, 2401);
    }

    void promise13TheFirstPixelCounts() {
        int critical = 0;
        LensBench bench = atTheFirstPixel();
        for (int x = -24; x < -14; x++) {
            for (int y = -24; y < -14; y++) {
                critical += bench.critical(x, y);
            }
        }
        due("CRITICAL PIXELS", bench.rings(0), critical);
        due("RINGS", bench.rings(1), 1);
    }

    /** A ring cut by a rim is joined by its other side alone, whichever way that lies. */
    void promise13JoinedOnEachSide() {
        int[][] rims = {{0, -24}, {0, 24}, {-24, 0}, {24, 0}, {0, 0}};
        for (int[] rim : rims) {
            LensBench bench = plain();
            SlowBench slow = new SlowBench();
            bench.body(POINT, rim[0], rim[1], 60);
            slow.body(POINT, rim[0], rim[1], 60);
            due("RINGS about " + rim[0] + ", " + rim[1], bench.rings(1), slow.rings(1));
            due("PIXELS about " + rim[0] + ", " + rim[1], bench.rings(0), slow.rings(0));
        }
    }

    void promise13RimsCount() {
        SlowBench slow = new SlowBench();
        slow.body(POINT, 24, 24, 60);
        slow.body(POINT, -24, -24, 60);
        LensBench bench = plain();
        bench.body(POINT, 24, 24, 60);
        bench.body(POINT, -24, -24, 60);
        for (int what = 0; what <= 3; what++) {
            due("two corners, " + what, bench.rings(what), slow.rings(what));
        }
    }

    // ---- promise 14

    void promise14Ends() {
        ends(Boundaries::plain, BRIGHTEST, v -> v[0] == 0 ? 1 : -24, NO, new Range("what", 0, 2, 1));
        ends(() -> with(POINT, 60), BRIGHTEST, v -> v[0] == 0 ? 19 : 0, NO, new Range("what", 0, 2, 2));
    }

    void promise14OfSeveralThatOfTheFirstPixel() {
        // a weight of 1 draws the four pixels beside it to its cell
        LensBench bench = plain();
        add(bench, -10, 5, 1, 1);
        add(bench, 10, -5, 1, 1);
        int[] want = {5, 10, -5};
        for (int what = 0; what <= 2; what++) {
            due("the upper one, " + what, bench.brightest(what), want[what]);
        }
        bench.set(1, Y, 5);
        int[] level = {5, -10, 5};
        for (int what = 0; what <= 2; what++) {
            due("the left one, " + what, bench.brightest(what), level[what]);
        }
    }

    void promise14MoreAheadOfFirst() {
        LensBench bench = plain();
        add(bench, -10, -5, 1, 1);
        due("one alone", bench.brightest(1), -10);
        add(bench, 10, 5, 2, 2);
        add(bench, 20, 20, 1, 1);
        SlowBench slow = new SlowBench();
        int[][] bodies = {{-10, -5, 1, 1}, {10, 5, 2, 2}, {20, 20, 1, 1}};
        for (int i = 0; i < 3; i++) {
            slow.body(CUT, bodies[i][0], bodies[i][1], bodies[i][2]);
            slow.set(i, EDGE, bodies[i][3]);
        }
        for (int what = 0; what <= 2; what++) {
            due("three, " + what, bench.brightest(what), slow.brightest(what));
        }
    }

    void promise14TheSecondCell() {
        int[] want = {2, -11, -36};
        for (int what = 0; what <= 2; what++) {
            due("the first CELL has one, " + what, withField(8, 0).brightest(what), want[what]);
        }
    }

    void promise14CellsBeyondThoseAsked() {
        LensBench bench = plain();
        add(bench, -25, -25, 400, 2);
        due("one picture each", bench.brightest(0), 1);
        due("x of the first PIXEL's cell", bench.brightest(1), -224);
        due("y of the first PIXEL's cell", bench.brightest(2), -224);
    }

    // ---- promise 15

    private static long plainDelay(int[] v) {
        return 16L * (v[2] * v[2] - v[0] * v[0]) - 2L * v[4] * (v[2] - v[0])
                + 16L * (v[3] * v[3] - v[1] * v[1]) - 2L * v[5] * (v[3] - v[1]);
    }

    void promise15Ends() {
        ends(Boundaries::plain, DELAY, PicturesBoundaries::plainDelay, NO, OF_PIXEL[0], OF_PIXEL[1],
                new Range("toX", -24, 24, -5), new Range("toY", -24, 24, 6),
                new Range("farX", -2000, 2000, 70), new Range("farY", -2000, 2000, -80));
    }

    void promise15NoStep() {
        for (int x = -24; x <= 24; x += 24) {
            due("to itself", rich().delay(x, -x, x, -x, 2000, -2000), 0);
        }
    }

    void promise15OneStep() {
        int[][] steps = {{1, 0}, {-1, 0}, {0, 1}, {0, -1}};
        for (int[] step : steps) {
            LensBench bench = rich();
            int axis = step[0] != 0 ? 0 : 1;
            int sign = step[0] + step[1];
            long ends = bench.from(2, 3, axis) + bench.from(2 + step[0], 3 + step[1], axis);
            long want = sign * (ends - 2L * (axis == 0 ? 100 : -7));
            due("a step by " + step[0] + ", " + step[1], bench.delay(2, 3, 2 + step[0], 3 + step[1], 100, -7), want);
        }
    }

    void promise15XAheadOfY() {
        LensBench bench = rich();
        long alongX = bench.delay(-2, 5, 3, 5, 9, 8);
        long thenAlongY = bench.delay(3, 5, 3, -1, 9, 8);
        long alongYFirst = bench.delay(-2, 5, -2, -1, 9, 8) + bench.delay(-2, -1, 3, -1, 9, 8);
        due("along x, then y", bench.delay(-2, 5, 3, -1, 9, 8), alongX + thenAlongY);
        due("the other way differs", alongYFirst == alongX + thenAlongY ? 1 : 0, 0);
    }

    void promise15BackAndForth() {
        int[][] ways = {{-24, 0, 24, 0}, {0, -24, 0, 24}};
        for (int[] way : ways) {
            long there = atEachRim().delay(way[0], way[1], way[2], way[3], 2000, -2000);
            due("back", atEachRim().delay(way[2], way[3], way[0], way[1], 2000, -2000), -there);
        }
    }

    void promise15TheGreatest() {
        LensBench bench = plain();
        for (int i = 0; i < 8; i++) {
            bench.body(POINT, 25, 0, 400);
        }
        long sum = 0;
        LensBench asked = plain();
        for (int i = 0; i < 8; i++) {
            asked.body(POINT, 25, 0, 400);
        }
        for (int x = -24; x < 24; x++) {
            sum += asked.from(x, 0, 0) + asked.from(x + 1, 0, 0) + 4000;
        }
        due("towards heavy bodies", bench.delay(-24, 0, 24, 0, -2000, 0), sum);
        due("away from them", bench.delay(24, 0, -24, 0, -2000, 0), -sum);
    }

    // ---- promise 16

    /** Twice STRETCH ahead of its rounding, times 64, asked from new benches. */
    static long doubledStretch(Scene scene, int n) {
        long twice = 0;
        for (int x = -n; x <= n; x++) {
            LensBench bench = scene.made();
            for (int y = -n; y <= n; y += Math.abs(x) == n ? 1 : 2 * n) {
                long a = bench.from(x + 1, y, 0) - bench.from(x - 1, y, 0);
                long b = bench.from(x + 1, y, 1) - bench.from(x - 1, y, 1);
                long c = bench.from(x, y + 1, 0) - bench.from(x, y - 1, 0);
                long d = bench.from(x, y + 1, 1) - bench.from(x, y - 1, 1);
                twice += 2 * (b + c) * x * y - (a - d) * (x * x - y * y);
            }
        }
        return twice;
    }

    void promise16Ends() {
        ends(Boundaries::plain, STRETCH, v -> 0, NO, new Range("n", 1, 24, 10));
        Scene scene = PicturesBoundaries::atEachRim;
        ends(scene, STRETCH, v -> Math.floorDiv(doubledStretch(scene, v[0]), 128), NO, new Range("n", 1, 24, 23));
    }

    void promise16RoundedDown() {
        Scene[] scenes = {PicturesBoundaries::leftAndRight, PicturesBoundaries::atEachRim, Boundaries::rich};
        int belowAndNotWhole = 0;
        int aboveAndNotWhole = 0;
        for (Scene scene : scenes) {
            for (int n = 1; n <= 24; n++) {
                long twice = doubledStretch(scene, n);
                due("STRETCH at " + n, scene.made().stretch(n), Math.floorDiv(twice, 128));
                boolean isWhole = Math.floorMod(twice, 128) == 0;
                belowAndNotWhole += twice < 0 && !isWhole ? 1 : 0;
                aboveAndNotWhole += twice > 0 && !isWhole ? 1 : 0;
            }
        }
        due("some below 0 are rounded", belowAndNotWhole > 0 ? 1 : 0, 1);
        due("some above 0 are rounded", aboveAndNotWhole > 0 ? 1 : 0, 1);
    }

    private static LensBench leftAndRight() {
        LensBench bench = new LensBench();
        bench.body(POINT, 5, 0, 3);
        return bench;
    }

    void promise16ALastHalfCounts() {
        // a less d is odd at some pixels here: half of it is not whole
        Scene scene = () -> with(POINT, 3);
        for (int n = 1; n <= 24; n++) {
            due("STRETCH at " + n, scene.made().stretch(n), Math.floorDiv(doubledStretch(scene, n), 128));
        }
    }
}

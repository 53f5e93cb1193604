/** Promises 28 to 33: told brightness, what it tells of cells, counts and the trace. */
final class BrightnessBoundaries extends Boundaries {
    private static final Call BRIGHT = (bench, v) -> bench.bright(v[0], v[1], v[2]);
    private static final Call FAR = (bench, v) -> bench.far(v[0], v[1]);
    private static final Call CONTRADICTS = (bench, v) -> bench.contradicts();
    private static final Call FILLED = (bench, v) -> bench.filled(v[0], v[1]);
    private static final Call COUNT = (bench, v) -> bench.count(v[0]);
    private static final int BAD_BRIGHTNESS = -2;

    private static final Range[] OF_PIXEL = {new Range("x", -24, 24, 3), new Range("y", -24, 24, -7)};
    private static final Range[] OF_CELL = {new Range("x", -99, 99, 3), new Range("y", -99, 99, -7)};

    BrightnessBoundaries(Checks checks) {
        super(checks);
    }

    /** Light along x comes from 8 x: (1, 0) and (2, 0) show the cell (1, 0). */
    private static LensBench squeezed(int of1, int of2) {
        LensBench bench = withField(8, 0);
        bench.bright(1, 0, of1);
        bench.bright(2, 0, of2);
        return bench;
    }

    /** A body that moves the light of the pixel (24, 0) or (-24, 0) alone, away from the middle. */
    private static LensBench moved(int sign, int weight) {
        LensBench bench = new LensBench();
        bench.body(CUT, 25 * sign, 0, weight);
        bench.set(0, EDGE, 1);
        bench.bright(24 * sign, 0, 50);
        return bench;
    }

    /** (24, 0) and (23, 0) show one CELL beyond those that may be asked: each is pushed by a body beside it. */
    private static LensBench farPair(int of24, int of23) {
        LensBench bench = withField(8, 0);
        for (int i = 0; i <= 1; i++) {
            bench.body(CUT, 25 - i, 0, 100);
            bench.set(i, EDGE, 1);
        }
        bench.bright(24, 0, of24);
        bench.bright(23, 0, of23);
        return bench;
    }

    // ---- promise 28

    void promise28Ends() {
        Range v = new Range("v", 0, 99, 5);
        ends(Boundaries::plain, BRIGHT, n -> NONE, BAD_BRIGHTNESS, OF_PIXEL[0], OF_PIXEL[1], v);
        ends(() -> brightAllRound(), BRIGHT, n -> n[0] == 3 || n[1] == -7 ? NONE : 99, BAD_BRIGHTNESS,
                OF_PIXEL[0], OF_PIXEL[1], v);
    }

    private static LensBench brightAllRound() {
        LensBench bench = new LensBench();
        for (int x = -24; x <= 24; x += 48) {
            for (int y = -24; y <= 24; y += 48) {
                bench.bright(x, y, 99);
            }
        }
        return bench;
    }

    void promise28NoneAloneBelow0() {
        for (int v = -20; v < 0; v++) {
            if (v != NONE) {
                refused(Boundaries::rich, "bright", BRIGHT, BAD_BRIGHTNESS, 0, 0, v);
            }
        }
        due("NONE", rich().bright(0, 0, NONE), 30);
        due("NONE of a place beyond", rich().bright(25, 0, NONE), BAD_BRIGHTNESS);
        due("NONE of a place beyond", rich().bright(0, -25, NONE), BAD_BRIGHTNESS);
    }

    void promise28NotToldAgain() {
        LensBench bench = plain();
        due("NONE of one not told", bench.bright(24, -24, NONE), NONE);
        due("told pixels", bench.count(3), 0);
        due("0", bench.bright(24, -24, 0), NONE);
        due("told pixels", bench.count(3), 1);
        due("NONE of one told 0", bench.bright(24, -24, NONE), 0);
        due("told pixels", bench.count(3), 0);
        due("99", bench.bright(24, -24, 99), NONE);
        due("99 again", bench.bright(24, -24, 99), 99);
        due("told pixels", bench.count(3), 1);
        refused(Boundaries::rich, "NONE of one not told", BRIGHT, NONE, 10, 10, NONE);
    }

    void promise28EndsOfRows() {
        LensBench bench = plain();
        bench.bright(24, 0, 7);
        due("the next row's first", bench.bright(-24, 1, NONE), NONE);
        due("its own", bench.bright(24, 0, NONE), 7);
        bench.bright(-24, -24, 1);
        bench.bright(24, 24, 2);
        due("the last one", bench.bright(24, 24, NONE), 2);
        due("the first one", bench.bright(-24, -24, NONE), 1);
    }

    // ---- promise 29

    void promise29Ends() {
        ends(Boundaries::plain, FAR, v -> NONE, BAD, OF_CELL);
        ends(BrightnessBoundaries::brightAllRound, FAR, v -> NONE, BAD, OF_CELL);
        for (int x = -24; x <= 24; x += 48) {
            for (int y = -24; y <= 24; y += 48) {
                due("FAR of a corner's CELL", brightAllRound().far(x, y), 99);
            }
        }
    }

    void promise29TheLastCellsThatMayBeAsked() {
        for (int sign = -1; sign <= 1; sign += 2) {
            due("cell 99", moved(sign, 75).far(99 * sign, 0), 50);
            due("cell 99, its pixel beyond", moved(sign, 76).far(99 * sign, 0), NONE);
            due("cell 100", moved(sign, 76).far(100 * sign, 0), BAD);
        }
    }

    void promise29NoneTold() {
        due("of two not told", squeezed(NONE, NONE).far(1, 0), NONE);
        due("of one told 0", squeezed(0, NONE).far(1, 0), 0);
        due("of two told 0", squeezed(0, 0).far(1, 0), 0);
        due("without pictures", squeezed(1, 1).far(40, 0), NONE);
        LensBench bench = squeezed(4, 5);
        bench.bright(1, 0, NONE);
        bench.bright(2, 0, NONE);
        due("no longer told", bench.far(1, 0), NONE);
    }

    void promise29RoundedDownByHowManyAreTold() {
        due("99 and 98", squeezed(99, 98).far(1, 0), 98);
        due("99 and 99", squeezed(99, 99).far(1, 0), 99);
        due("0 and 1", squeezed(0, 1).far(1, 0), 0);
        due("1 and 1", squeezed(1, 1).far(1, 0), 1);
        due("9 of one alone", squeezed(9, NONE).far(1, 0), 9);
        due("9 of the other alone", squeezed(NONE, 9).far(1, 0), 9);
    }

    // ---- promise 30

    void promise30NothingTold() {
        onlyAsks(Boundaries::plain, "contradicts", CONTRADICTS, 0);
        due("one told", squeezed(99, NONE).contradicts(), 0);
        due("two told in two cells", brightAllRound().contradicts(), 0);
    }

    void promise30ByMoreThanNoise() {
        for (int noise = 0; noise <= 99; noise += 11) {
            for (int more = -1; more <= 1; more++) {
                int high = noise + more;
                if (high < 0 || high > 99) {
                    continue;
                }
                LensBench bench = squeezed(high, 0);
                bench.tolerance(1, noise);
                due(high + " apart by noise " + noise, bench.contradicts(), more > 0 ? 1 : 0);
                LensBench other = squeezed(0, high);
                other.tolerance(1, noise);
                due(high + " apart the other way by noise " + noise, other.contradicts(), more > 0 ? 1 : 0);
            }
        }
        due("5 apart at first", squeezed(7, 2).contradicts(), 0);
        due("6 apart at first", squeezed(8, 2).contradicts(), 1);
        due("99 apart at first", squeezed(0, 99).contradicts(), 1);
    }

    void promise30TheGreatestDifferenceOfThree() {
        // five pixels show the cell (10, -5)
        LensBench bench = plain();
        bench.body(CUT, 10, -5, 1);
        bench.set(0, EDGE, 1);
        bench.bright(10, -6, 50);
        bench.bright(9, -5, 54);
        due("4 apart", bench.contradicts(), 0);
        bench.bright(10, -4, 49);
        due("5 apart", bench.contradicts(), 0);
        bench.bright(11, -5, 55);
        due("6 apart, neighbours less", bench.contradicts(), 1);
        bench.bright(10, -5, 0);
        due("one cell once", bench.contradicts(), 1);
        bench.bright(10, -5, NONE);
        bench.bright(11, -5, NONE);
        due("not told any more", bench.contradicts(), 0);
    }

    void promise30TheFirstPixelsAndTheLast() {
        // light along x comes from 9 x: (-24, -24) and (-23, -24) show the cell (-13, ..)
        LensBench first = withField(7, 0);
        first.bright(-24, -24, 0);
        first.bright(-23, -24, 6);
        due("cells", first.cell(-24, -24, 0), first.cell(-23, -24, 0));
        due("the first two", first.contradicts(), 1);
        LensBench last = withField(7, 0);
        last.bright(23, 24, 0);
        last.bright(24, 24, 6);
        due("cells", last.cell(23, 24, 0) - last.cell(24, 24, 0), -1);
        due("the last two in two cells", last.contradicts(), 0);
        LensBench joined = withField(8, 0);
        joined.bright(23, 24, 0);
        joined.bright(24, 24, 6);
        due("cells", joined.cell(23, 24, 0), joined.cell(24, 24, 0));
        due("the last two", joined.contradicts(), 1);
    }

    void promise30CellsNoLongerTold() {
        LensBench bench = squeezed(0, 9);
        bench.bright(3, 0, 0);
        bench.bright(4, 0, 50);
        due("two cells", bench.contradicts(), 2);
        bench.bright(3, 0, NONE);
        bench.bright(4, 0, NONE);
        due("one cell", bench.contradicts(), 1);
        bench.bright(1, 0, NONE);
        due("none", bench.contradicts(), 0);
        bench.bright(2, 0, NONE);
        due("none told", bench.contradicts(), 0);
    }

    void promise30SeenAtOnce() {
        LensBench bench = squeezed(0, 9);
        due("9 apart", bench.contradicts(), 1);
        bench.field(0, 0);
        due("in two cells", bench.contradicts(), 0);
        bench.field(0, 8);
        due("in one again", bench.contradicts(), 1);
        bench.tolerance(1, 9);
        due("within 9", bench.contradicts(), 0);
    }

    void promise30CellsBeyondThoseAsked() {
        due("the CELL of (24, 0)", farPair(0, 99).cell(24, 0, 0), 112);
        due("the CELL of (23, 0)", farPair(0, 99).cell(23, 0, 0), 112);
        due("99 apart", farPair(0, 99).contradicts(), 1);
        due("5 apart", farPair(94, 99).contradicts(), 0);
        due("6 apart", farPair(93, 99).contradicts(), 1);
    }

    // ---- promise 31

    void promise31Ends() {
        ends(Boundaries::plain, FILLED, v -> NONE, BAD, OF_PIXEL);
        ends(BrightnessBoundaries::brightAllRound, FILLED, v -> v[0] == 3 || v[1] == -7 ? NONE : 99, BAD, OF_PIXEL);
    }

    void promise31ItsOwnAheadOfFar() {
        due("its own", squeezed(10, 21).filled(1, 0), 10);
        due("its own", squeezed(10, 21).filled(2, 0), 21);
        due("its own 0", squeezed(0, 21).filled(1, 0), 0);
        due("its cell's", squeezed(NONE, 21).filled(1, 0), 21);
        due("its cell's 0", squeezed(0, NONE).filled(2, 0), 0);
        due("none told", squeezed(NONE, NONE).filled(1, 0), NONE);
        due("another cell's", squeezed(10, 21).filled(3, 0), NONE);
        LensBench plus = plain();
        plus.body(CUT, 10, -5, 1);
        plus.set(0, EDGE, 1);
        plus.bright(10, -6, 50);
        plus.bright(9, -5, 53);
        due("51.5 rounded down", plus.filled(11, -5), 51);
    }

    void promise31CellsBeyondThoseAsked() {
        due("its own", farPair(40, NONE).filled(24, 0), 40);
        due("its CELL's", farPair(40, NONE).filled(23, 0), 40);
        due("its CELL's", farPair(NONE, 41).filled(24, 0), 41);
        due("none told", farPair(NONE, NONE).filled(24, 0), NONE);
        due("FAR of it", farPair(40, 41).far(112, 0), BAD);
    }

    void promise31NothingIsTold() {
        onlyAsks(() -> squeezed(NONE, 21), "filled", FILLED, 21, 1, 0);
        onlyAsks(Boundaries::rich, "far", FAR, rich().far(0, 0), 0, 0);
        onlyAsks(Boundaries::rich, "contradicts", CONTRADICTS, rich().contradicts());
    }

    // ---- promise 32

    void promise32Ends() {
        int[] none = new int[6];
        int[] some = {3, 2, 3, 16, 18, 54};
        int[] all = {8, 10, 8, 16, 200, 332};
        Range what = new Range("what", 0, 5, 3);
        ends(Boundaries::plain, COUNT, v -> none[v[0]], BAD, what);
        ends(Boundaries::rich, COUNT, v -> some[v[0]], BAD, what);
        ends(Boundaries::full, COUNT, v -> all[v[0]], BAD, what);
        for (int i = 0; i <= 5; i++) {
            due("empty " + i, plain().count(i), none[i]);
            due("rich " + i, rich().count(i), some[i]);
            due("full " + i, full().count(i), all[i]);
        }
    }

    void promise32TheGreatest() {
        due("WEIGHTS together", withBodies(8, CUT, 400).count(5), 3200);
        LensBench bench = plain();
        int told = 0;
        for (int y = -24; y < -14; y++) {
            for (int x = -24; x <= 24; x++) {
                bench.bright(x, y, 0);
                told++;
            }
        }
        due("told PIXELS", bench.count(3), told);
    }

    void promise32Each() {
        LensBench bench = full();
        bench.drop();
        due("bodies", bench.count(0), 7);
        due("weights", bench.count(5), 332 - 80);
        bench.wipe();
        due("pairs", bench.count(1), 0);
        bench.forget();
        due("spots", bench.count(2), 0);
        bench.clear();
        due("bytes", bench.count(4), 0);
        bench.bright(-24, -24, NONE);
        due("told PIXELS", bench.count(3), 15);
        due("bodies still", bench.count(0), 7);
    }

    // ---- promise 33

    void promise33EachKindAtEachPlace() {
        int[] asked = {1, 11, 111};
        int[][] features = {{0, 0}, {0, 90}, {900, 0}, {900, 90}, {30, 5}};
        int[][] places = {{0, 0}, {1, 0}, {3, 4}, {5, 1}, {60, -60}};
        for (int kind = POINT; kind <= CUT; kind++) {
            for (int[] feature : features) {
                for (int[] place : places) {
                    for (int axis = 0; axis <= 1; axis++) {
                        LensBench bench = withFeatures(POINT, 60, feature[0], feature[1]);
                        bench.bend(kind, 0, place[0], place[1], axis);
                        due("a bend() by " + kind, bench.trace(), asked[kind]);
                    }
                }
            }
        }
    }

    void promise33OneAfterAnother() {
        LensBench bench = rich();
        due("ahead", bench.trace(), 111);
        bench.bend(POINT, 2, 0, 0, 0);
        due("POINT", bench.trace(), 112);
        bench.bend(SOFT, 1, 6, 2, 0);
        due("SOFT at its place", bench.trace(), 123);
        bench.bend(CUT, 0, 60, 60, 1);
        due("CUT", bench.trace(), 234);
        due("asked again", bench.trace(), 234);
    }

    void promise33RefusedOnesAddNothing() {
        int[][] refused = {{-1, 0, 0, 0, 0}, {3, 0, 0, 0, 0}, {0, -1, 0, 0, 0}, {0, 3, 0, 0, 0}, {0, 0, 61, 0, 0},
            {0, 0, -61, 0, 0}, {0, 0, 0, 61, 0}, {0, 0, 0, -61, 0}, {0, 0, 0, 0, 2}, {0, 0, 0, 0, -1}, {2, 8, 0, 0, 0},
            {MAX, MAX, MAX, MAX, MAX}, {MIN, MIN, MIN, MIN, MIN}};
        for (int[] v : refused) {
            refused(Boundaries::rich, "bend", (bench, n) -> bench.bend(n[0], n[1], n[2], n[3], n[4]), NO, v);
            LensBench bench = plain();
            bench.bend(v[0], v[1], v[2], v[3], v[4]);
            due("without bodies", bench.trace(), 0);
        }
    }

    void promise33OtherCallsAddNothing() {
        LensBench bench = full();
        due("ahead", bench.trace(), 11);
        Snapshot.of(bench);
        due("after a snapshot", bench.trace(), 11);
        LensBench asked = rich();
        asked.from(1, 1, 0);
        asked.cell(1, 1, 0);
        asked.pictures(0, 0, 1);
        asked.group(0, 0, 0, 3);
        asked.parity(0, 0);
        asked.critical(0, 0);
        asked.fits(3, 15, 4095);
        asked.set(0, WEIGHT, 1);
        asked.drop();
        asked.read();
        due("after other calls", asked.trace(), 111);
    }

    void promise33DroppedBodiesStayInIt() {
        LensBench bench = rich();
        bench.drop();
        bench.drop();
        bench.drop();
        due("trace()", bench.trace(), 111);
    }

    // ---- the snapshots by which "nothing changes" is seen

    void promise33SnapshotsShowEachChange() {
        sees(Boundaries::rich, "a body", (bench, v) -> bench.body(POINT, 1, 1, 0));
        for (int body = 0; body < 3; body++) {
            for (int what = KIND; what <= EDGE; what++) {
                int v = what == KIND ? (body + 1) % 3 : 1;
                sees(Boundaries::rich, "a feature", (bench, n) -> bench.set(n[0], n[1], n[2]), body, what, v);
            }
        }
        sees(Boundaries::rich, "drop", (bench, v) -> bench.drop());
        sees(Boundaries::rich, "g", (bench, v) -> bench.field(0, 0));
        sees(Boundaries::rich, "h", (bench, v) -> bench.field(1, 0));
        sees(Boundaries::rich, "bend", (bench, v) -> bench.bend(POINT, 0, 1, 1, 0));
        sees(Boundaries::rich, "type", (bench, v) -> bench.type(';', 1));
        sees(Boundaries::rich, "clear", (bench, v) -> bench.clear());
        sees(Boundaries::rich, "read", (bench, v) -> bench.read());
        sees(Boundaries::rich, "pair", (bench, v) -> bench.pair(0, 0, 0, 0));
        sees(Boundaries::rich, "wipe", (bench, v) -> bench.wipe());
        sees(Boundaries::rich, "tolerance", (bench, v) -> bench.tolerance(0, 59));
        sees(Boundaries::rich, "noise", (bench, v) -> bench.tolerance(1, 8));
        sees(Boundaries::rich, "spot", (bench, v) -> bench.spot(0, 0));
        sees(Boundaries::rich, "forget", (bench, v) -> bench.forget());
        sees(Boundaries::rich, "bright", (bench, v) -> bench.bright(2, 1, 41));
        sees(Boundaries::rich, "bright", (bench, v) -> bench.bright(2, 2, 41));
    }
}

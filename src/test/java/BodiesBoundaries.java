/** Promises 1 to 8: a new object, bodies, the field, where light comes from. */
final class BodiesBoundaries extends Boundaries {
    private static final Call BODY = (bench, v) -> bench.body(v[0], v[1], v[2], v[3]);
    private static final Call SET = (bench, v) -> bench.set(v[0], v[1], v[2]);
    private static final Call DROP = (bench, v) -> bench.drop();
    private static final Call FIELD = (bench, v) -> bench.field(v[0], v[1]);
    private static final Call BEND = (bench, v) -> bench.bend(v[0], v[1], v[2], v[3], v[4]);
    private static final Call FROM = (bench, v) -> bench.from(v[0], v[1], v[2]);
    private static final Call CELL = (bench, v) -> bench.cell(v[0], v[1], v[2]);

    private static final Range[] OF_BODY = {new Range("kind", 0, 2, 1), new Range("x", -40, 40, 3),
        new Range("y", -40, 40, -4), new Range("weight", 0, 400, 50)};
    private static final Range[] OF_PLACE = {new Range("x", -60, 60, 7), new Range("y", -60, 60, -9),
        new Range("axis", 0, 1, 0)};

    BodiesBoundaries(Checks checks) {
        super(checks);
    }

    // ---- promise 1

    void promise1NoBodies() {
        due("count(0)", plain().count(0), 0);
        due("count(5)", plain().count(5), 0);
        due("drop()", plain().drop(), STATE);
        due("set(0, 0, 0)", plain().set(0, KIND, 0), NO);
        due("bend(0, 0, 0, 0, 0)", plain().bend(POINT, 0, 0, 0, 0), NO);
        due("fits(1, 1, 0)", plain().fits(1, 1, 0), BAD);
        due("models(1, 1, 0)", plain().models(1, 1, 0), BAD);
        due("sure(1, 1, 0)", plain().sure(1, 1, 0), BAD);
    }

    void promise1NoText() {
        due("count(4)", plain().count(4), 0);
        due("clear()", plain().clear(), 0);
        due("read()", plain().read(), 0);
    }

    void promise1NoPairsAndSpots() {
        due("count(1)", plain().count(1), 0);
        due("wipe()", plain().wipe(), 0);
        due("count(2)", plain().count(2), 0);
        due("forget()", plain().forget(), 0);
    }

    void promise1NoBrightnessIsTold() {
        due("count(3)", plain().count(3), 0);
        due("contradicts()", plain().contradicts(), 0);
        for (int x = -24; x <= 24; x += 48) {
            for (int y = -24; y <= 24; y += 48) {
                due("bright of a corner", plain().bright(x, y, 1), NONE);
                due("filled of a corner", plain().filled(x, y), NONE);
                due("far of a corner", plain().far(x, y), NONE);
            }
        }
    }

    void promise1WhatStandsAtFirst() {
        due("g", plain().field(0, 8), 0);
        due("h", plain().field(1, 8), 0);
        due("TOLERANCE", plain().tolerance(0, 64), 8);
        due("NOISE", plain().tolerance(1, 99), 5);
        due("trace()", plain().trace(), 0);
        due("PIXELS of PARITY 1", plain().rings(2), 2401);
    }

    void promise1ObjectsShareNothing() {
        LensBench before = plain();
        LensBench busy = full();
        busy.rings(1);
        busy.models(3, 15, 2);
        due("of an older object", Snapshot.of(before).equals(Snapshot.of(plain())) ? 1 : 0, 1);
        Snapshot.of(rich());
        due("of an object in use", Snapshot.of(busy).equals(Snapshot.of(full())) ? 1 : 0, 1);
    }

    void promise1TheLastOf512Calls() {
        LensBench bench = plain();
        bench.body(CUT, 0, 0, 400);
        for (int call = 2; call <= 511; call++) {
            bench.bend(CUT, 0, 1, 0, 0);
        }
        due("the 512th call", bench.trace(), 111 * 510);
        LensBench looking = plain();
        for (int call = 1; call <= 511; call++) {
            looking.field(call % 2, call % 9);
        }
        due("the 512th call", looking.field(1, 0), 511 % 9);
    }

    // ---- promise 2

    void promise2Ends() {
        ends(Boundaries::plain, BODY, v -> 0, BAD, OF_BODY);
    }

    void promise2BadAheadOfFull() {
        ends(Boundaries::full, BODY, v -> FULL, BAD, OF_BODY);
    }

    void promise2NumbersFrom0To7() {
        LensBench bench = plain();
        for (int i = 0; i < 8; i++) {
            due("body " + i, bench.body(i % 3, i, -i, i), i);
            due("bodies", bench.count(0), i + 1);
        }
        due("a ninth body", bench.body(POINT, 0, 0, 0), FULL);
        due("bodies", bench.count(0), 8);
    }

    void promise2FullChangesNothing() {
        refused(Boundaries::full, "body", BODY, FULL, POINT, 0, 0, 60);
        refused(Boundaries::full, "body", BODY, FULL, CUT, 40, -40, 400);
    }

    void promise2AfterDropNoLongerFull() {
        LensBench bench = full();
        bench.drop();
        due("the eighth body anew", bench.body(POINT, 0, 0, 0), 7);
        due("a ninth body", bench.body(POINT, 0, 0, 0), FULL);
    }

    void promise2CoreAndEdgeAtFirst() {
        for (int kind = POINT; kind <= CUT; kind++) {
            due("CORE", with(kind, 1).set(0, CORE, 1), 0);
            due("EDGE", with(kind, 1).set(0, EDGE, 1), 90);
        }
        LensBench bench = full();
        bench.drop();
        bench.body(CUT, 1, 1, 1);
        due("CORE where another body was", bench.set(7, CORE, 1), 0);
        due("EDGE where another body was", bench.set(7, EDGE, 1), 90);
    }

    void promise2EndsStandAsTold() {
        int[] least = {0, -40, -40, 0};
        int[] most = {2, 40, 40, 400};
        for (int what = KIND; what <= WEIGHT; what++) {
            LensBench low = plain();
            low.body(0, -40, -40, 0);
            due("least of " + what, low.set(0, what, 1), least[what]);
            LensBench high = plain();
            high.body(2, 40, 40, 400);
            due("most of " + what, high.set(0, what, 1), most[what]);
        }
    }

    void promise2SeenAtOnce() {
        LensBench bench = plain();
        due("PIXELS of PARITY 1", bench.rings(2), 2401);
        bench.body(POINT, 0, 0, 60);
        due("PIXELS of PARITY 1 with a body", bench.rings(2), 2213);
        LensBench tried = eightFits();
        due("how many FIT", tried.models(1, 15, 0), 1);
        tried.body(POINT, 0, 0, 2);
        due("LEAST beside another body", tried.models(1, 15, 1), 6);
    }

    // ---- promise 3

    void promise3EndsOfWhat() {
        int[][] was = {{POINT, 0, 0, 9, 0, 90}, {SOFT, 6, 2, 5, 8, 90}, {CUT, -5, 3, 40, 10, 12}};
        ends(Boundaries::rich, (bench, v) -> bench.set(v[0], v[1], 0), v -> was[v[0]][v[1]], NO,
                new Range("body", 0, 2, 1), new Range("what", 0, 5, WEIGHT));
    }

    void promise3EndsOfEachFeature() {
        int[] was = {CUT, 7, 0, 60, 0, 90};
        for (int what = KIND; what <= EDGE; what++) {
            int asked = what;
            ends(() -> withBodies(8, CUT, 60), (bench, v) -> bench.set(v[0], asked, v[1]),
                    v -> asked == X ? v[0] : was[asked], NO,
                    new Range("body", 0, 7, 2), new Range("v of " + what, LEAST_OF[what], MOST_OF[what], 1));
        }
    }

    void promise3EndsStandAsSet() {
        for (int what = KIND; what <= EDGE; what++) {
            LensBench bench = rich();
            bench.set(2, what, LEAST_OF[what]);
            due("least of " + what, bench.set(2, what, MOST_OF[what]), LEAST_OF[what]);
            due("most of " + what, bench.set(2, what, MOST_OF[what]), MOST_OF[what]);
            due("the body ahead", bench.set(1, WEIGHT, 5), 5);
        }
    }

    void promise3NoBodies() {
        refused(Boundaries::plain, "set of none", SET, NO, 0, WEIGHT, 1);
        refused(Boundaries::plain, "set of none", SET, NO, -1, WEIGHT, 1);
    }

    void promise3TheLastBody() {
        for (int bodies = 1; bodies <= 8; bodies++) {
            due("the last of " + bodies, withBodies(bodies, SOFT, 6).set(bodies - 1, WEIGHT, 1), 6);
            due("one more than " + bodies, withBodies(bodies, SOFT, 6).set(bodies, WEIGHT, 1), NO);
        }
        LensBench dropped = rich();
        dropped.drop();
        due("a dropped one", dropped.set(2, WEIGHT, 1), NO);
        due("the one ahead of it", dropped.set(1, WEIGHT, 1), 5);
    }

    void promise3OneFeatureAlone() {
        int[] set = {SOFT, 9, 8, 7, 6, 5};
        int[] was = {CUT, -5, 3, 40, 10, 12};
        for (int what = KIND; what <= EDGE; what++) {
            LensBench bench = rich();
            bench.set(2, what, set[what]);
            for (int other = KIND; other <= EDGE; other++) {
                due("feature " + other + " after " + what, bench.set(2, other, set[other]),
                        other == what ? set[other] : was[other]);
            }
        }
    }

    void promise3SeenAtOnce() {
        LensBench bench = with(POINT, 60);
        due("PIXELS of PARITY 1", bench.rings(2), 2213);
        bench.set(0, WEIGHT, 0);
        due("PIXELS of PARITY 1 without weight", bench.rings(2), 2401);
        LensBench tried = eightFits();
        tried.body(POINT, 0, 0, 2);
        due("LEAST", tried.models(1, 15, 1), 6);
        tried.set(1, WEIGHT, 3);
        due("LEAST beside a heavier body", tried.models(1, 15, 1), 5);
    }

    // ---- promise 4

    void promise4NoneIsLeft() {
        refused(Boundaries::plain, "drop", DROP, STATE);
        LensBench bench = rich();
        due("of three", bench.drop(), 2);
        due("of two", bench.drop(), 1);
        due("of one", bench.drop(), 0);
        due("of none", bench.drop(), STATE);
        due("of none again", bench.drop(), STATE);
        due("bodies", bench.count(0), 0);
        due("a body after that", bench.body(POINT, 0, 0, 0), 0);
    }

    void promise4FromEightOn() {
        LensBench bench = full();
        for (int left = 7; left >= 0; left--) {
            due("left", bench.drop(), left);
            due("bodies", bench.count(0), left);
        }
        due("of none", bench.drop(), STATE);
    }

    void promise4TheLatestIsGone() {
        LensBench bench = plain();
        bench.body(POINT, 0, 0, 1);
        bench.body(POINT, 0, 0, 20);
        bench.body(POINT, 0, 0, 300);
        bench.drop();
        due("weights", bench.count(5), 21);
        due("from(1, 0, 0)", bench.from(1, 0, 0), 16 - 16 * 21);
        due("PIXELS of PARITY -1", bench.rings(3) > 0 ? 1 : 0, 1);
        bench.drop();
        bench.drop();
        due("PIXELS of PARITY -1 without bodies", bench.rings(3), 0);
    }

    void promise4NothingElseGoes() {
        LensBench bench = rich();
        bench.body(POINT, 0, 0, 1);
        bench.drop();
        due("as ahead of both", Snapshot.of(bench).equals(Snapshot.of(rich())) ? 1 : 0, 1);
    }

    void promise4SeenAtOnce() {
        LensBench tried = eightFits();
        tried.body(POINT, 0, 0, 2);
        due("LEAST", tried.models(1, 15, 1), 6);
        tried.drop();
        due("LEAST without the other", tried.models(1, 15, 1), 8);
    }

    // ---- promise 5

    void promise5Ends() {
        ends(Boundaries::plain, FIELD, v -> 0, NO, new Range("what", 0, 1, 0), new Range("v", -8, 8, 3));
        ends(Boundaries::rich, FIELD, v -> v[0] == 0 ? 1 : -2, NO,
                new Range("what", 0, 1, 1), new Range("v", -8, 8, -5));
    }

    void promise5EndsStandAsSet() {
        for (int v = -8; v <= 8; v += 16) {
            LensBench bench = plain();
            bench.field(0, v);
            due("h", bench.field(1, -v), 0);
            due("g", bench.field(0, 0), v);
            due("h again", bench.field(1, 0), -v);
        }
    }

    void promise5LightAtTheEnds() {
        int[] ends = {-8, 0, 8};
        for (int g : ends) {
            for (int h : ends) {
                LensBench bench = withField(g, h);
                due("along x", bench.from(60, -60, 0), 16 * 60 - (g * 60 + h * -60));
                due("along y", bench.from(60, -60, 1), 16 * -60 - (h * 60 - g * -60));
            }
        }
    }

    void promise5SeenAtOnce() {
        LensBench bench = plain();
        due("PICTURES", bench.pictures(1, 0, 0), 1);
        bench.field(0, 8);
        due("PICTURES with g 8", bench.pictures(1, 0, 0), 2);
        LensBench tried = eightFits();
        due("LEAST", tried.models(1, 15, 1), 8);
        tried.field(0, 4);
        due("LEAST with g 4: 72 apart", tried.models(1, 15, 1), 6);
    }

    // ---- promise 6

    private static long bendOf400(int kind, int body, int x, int y, int axis) {
        int d = axis == 0 ? x - body : y;
        int r = (x - body) * (x - body) + y * y;
        return r == 0 || kind == CUT && r > 8100 ? 0 : 6400 * d / r;
    }

    void promise6Ends() {
        ends(() -> withBodies(8, POINT, 400), BEND, v -> bendOf400(v[0], v[1], v[2], v[3], v[4]), NO,
                new Range("kind", 0, 2, 1), new Range("body", 0, 7, 5), new Range("x", -60, 60, 4),
                new Range("y", -60, 60, 3), new Range("axis", 0, 1, 1));
    }

    void promise6NoBodies() {
        refused(Boundaries::plain, "bend by none", BEND, NO, POINT, 0, 1, 1, 0);
        refused(Boundaries::plain, "bend by none", BEND, NO, POINT, -1, 1, 1, 0);
    }

    void promise6TheLastBody() {
        for (int bodies = 1; bodies <= 8; bodies++) {
            due("the last of " + bodies, withBodies(bodies, SOFT, 1).bend(POINT, bodies - 1, bodies, 0, 0), 16);
            due("one more than " + bodies, withBodies(bodies, SOFT, 1).bend(POINT, bodies, bodies, 0, 0), NO);
        }
        LensBench dropped = rich();
        dropped.drop();
        due("a dropped one", dropped.bend(CUT, 2, 0, 0, 0), NO);
    }

    void promise6PointWhereRIs0() {
        for (int axis = 0; axis <= 1; axis++) {
            due("at its place", with(POINT, 400).bend(POINT, 0, 0, 0, axis), 0);
        }
        due("one beside", with(POINT, 400).bend(POINT, 0, 1, 0, 0), 6400);
        due("one beside, back", with(POINT, 400).bend(POINT, 0, -1, 0, 0), -6400);
        due("one beside, the other axis", with(POINT, 400).bend(POINT, 0, 0, 1, 0), 0);
        due("one below", with(POINT, 400).bend(POINT, 0, 0, 1, 1), 6400);
        due("one above", with(POINT, 400).bend(POINT, 0, 0, -1, 1), -6400);
    }

    void promise6SoftWhereBothAre0() {
        due("both 0", withFeatures(SOFT, 400, 0, 90).bend(SOFT, 0, 0, 0, 0), 0);
        due("R 0, core 1", withFeatures(SOFT, 400, 1, 90).bend(SOFT, 0, 0, 0, 0), 0);
        due("R 0, core 900", withFeatures(SOFT, 400, 900, 90).bend(SOFT, 0, 0, 0, 1), 0);
        due("R 1, core 0", withFeatures(SOFT, 400, 0, 90).bend(SOFT, 0, 1, 0, 0), 6400);
        due("R 1, core 1", withFeatures(SOFT, 400, 1, 90).bend(SOFT, 0, 1, 0, 0), 3200);
        due("R 1, core 900", withFeatures(SOFT, 400, 900, 90).bend(SOFT, 0, 1, 0, 0), 7);
    }

    void promise6CutAboveEdgeSquared() {
        due("edge 5, R 25", withFeatures(CUT, 60, 0, 5).bend(CUT, 0, 3, 4, 0), 115);
        due("edge 5, R 26", withFeatures(CUT, 60, 0, 5).bend(CUT, 0, 5, 1, 0), 0);
        due("edge 5, R 24 by no place, R 20", withFeatures(CUT, 60, 0, 5).bend(CUT, 0, 4, 2, 0), 192);
        due("edge 1, R 1", withFeatures(CUT, 60, 0, 1).bend(CUT, 0, 0, -1, 1), -960);
        due("edge 1, R 2", withFeatures(CUT, 60, 0, 1).bend(CUT, 0, 1, 1, 1), 0);
        due("edge 0, R 0", withFeatures(CUT, 60, 0, 0).bend(CUT, 0, 0, 0, 1), 0);
        due("edge 0, R 1", withFeatures(CUT, 60, 0, 0).bend(CUT, 0, 1, 0, 0), 0);
        LensBench rim = plain();
        rim.body(CUT, -40, 0, 400);
        due("edge 90, R 8100", rim.bend(CUT, 0, 50, 0, 0), 6400 * 90 / 8100);
        due("edge 90, R 8101", rim.bend(CUT, 0, 50, 1, 0), 0);
        due("edge 90, R 8101, but SOFT", rim.bend(SOFT, 0, 50, 1, 0), 6400 * 90 / 8101);
        LensBench cored = withFeatures(CUT, 60, 900, 5);
        due("cored, on its edge", cored.bend(CUT, 0, 3, 4, 0), 115 * 25 / 925);
        due("cored, beyond its edge", cored.bend(CUT, 0, 5, 1, 0), 0);
    }

    void promise6RoundedToward0() {
        LensBench one = with(POINT, 1);
        due("48 by 13", one.bend(POINT, 0, 3, 2, 0), 3);
        due("-48 by 13", one.bend(POINT, 0, -3, 2, 0), -3);
        due("32 by 13", one.bend(POINT, 0, 3, 2, 1), 2);
        due("-32 by 13", one.bend(POINT, 0, 3, -2, 1), -2);
        due("48 by 58", one.bend(POINT, 0, 3, 7, 0), 0);
        due("-48 by 58", one.bend(POINT, 0, -3, 7, 0), 0);
        LensBench soft = withFeatures(SOFT, 1, 3, 90);
        due("SOFT: 3 of 3.2, then 15 by 8", soft.bend(SOFT, 0, 1, 2, 0), 1);
        due("SOFT: -3 of -3.2, then -15 by 8", soft.bend(SOFT, 0, -1, 2, 0), -1);
        due("SOFT: 6 of 6.4, then 30 by 8", soft.bend(SOFT, 0, 2, 1, 0), 3);
        due("SOFT: -6 of -6.4, then -30 by 8", soft.bend(SOFT, 0, -2, 1, 0), -3);
        due("CUT as SOFT", soft.bend(CUT, 0, -2, 1, 0), -3);
    }

    void promise6KindIsAskedNotTheBodys() {
        for (int kind = POINT; kind <= CUT; kind++) {
            LensBench bench = withFeatures(kind, 60, 30, 5);
            due("POINT of a body of kind " + kind, bench.bend(POINT, 0, 5, 1, 0), 960 * 5 / 26);
            due("SOFT of a body of kind " + kind, bench.bend(SOFT, 0, 5, 1, 0), 184 * 26 / 56);
            due("CUT of a body of kind " + kind, bench.bend(CUT, 0, 5, 1, 0), 0);
        }
    }

    void promise6WeightsAtTheEnds() {
        due("weight 0", with(POINT, 0).bend(POINT, 0, 1, 0, 0), 0);
        due("weight 1", with(POINT, 1).bend(POINT, 0, 1, 0, 0), 16);
        due("weight 400", with(POINT, 400).bend(POINT, 0, 1, 0, 0), 6400);
        LensBench far = plain();
        far.body(POINT, -40, -40, 400);
        due("as far as can be", far.bend(POINT, 0, 60, 60, 0), 6400 * 100 / 20000);
        far.set(0, WEIGHT, 1);
        due("as far as can be, weight 1", far.bend(POINT, 0, 60, 60, 1), 0);
    }

    // ---- promise 7

    void promise7Ends() {
        ends(Boundaries::plain, FROM, v -> 16L * v[v[2]], NO, OF_PLACE);
        ends(() -> withField(8, -8), FROM, v -> v[2] == 0 ? 8 * v[0] + 8 * v[1] : 24 * v[1] + 8 * v[0], NO, OF_PLACE);
    }

    void promise7ThroughEightBodies() {
        ends(() -> withBodies(8, SOFT, 400), FROM, BodiesBoundaries::lightPastEight, NO, OF_PLACE);
        LensBench bench = plain();
        for (int i = 0; i < 8; i++) {
            bench.body(POINT, 0, 0, 400);
        }
        due("the greatest", bench.from(-1, 0, 0), 8 * 6400 - 16);
        due("the least", bench.from(1, 0, 0), 16 - 8 * 6400);
        due("at their place", bench.from(0, 0, 0), 0);
    }

    private static long lightPastEight(int[] v) {
        long light = 16L * v[v[2]];
        for (int body = 0; body < 8; body++) {
            light -= bendOf400(SOFT, body, v[0], v[1], v[2]);
        }
        return light;
    }

    void promise7EachByItsKind() {
        LensBench bench = withFeatures(POINT, 60, 30, 5);
        due("POINT", bench.from(5, 1, 0), 80 - 184);
        bench.set(0, KIND, SOFT);
        due("SOFT", bench.from(5, 1, 0), 80 - 85);
        bench.set(0, KIND, CUT);
        due("CUT, R above its edge squared", bench.from(5, 1, 0), 80);
        due("CUT, R its edge squared", bench.from(4, 3, 0), 64 - 153 * 25 / 55);
    }

    void promise7OnlyAsks() {
        onlyAsks(Boundaries::rich, "from", FROM, rich().from(-60, 60, 1), -60, 60, 1);
    }

    // ---- promise 8

    void promise8Ends() {
        ends(Boundaries::plain, CELL, v -> v[v[2]], NO, OF_PLACE);
        ends(() -> withField(-8, 0), CELL, v -> Math.floorDiv((v[2] == 0 ? 24 * v[0] : 8 * v[1]) + 8, 16), NO,
                OF_PLACE);
    }

    void promise8RoundedDown() {
        // light along x comes from 8 x less y
        LensBench bench = withField(8, 1);
        int[][] places = {{1, 1}, {1, 0}, {-1, 0}, {-1, 1}, {3, 1}, {3, 0}, {-3, 0}, {-3, 1}, {0, 0}};
        int[] lights = {7, 8, -8, -9, 23, 24, -24, -25, 0};
        int[] cells = {0, 1, 0, -1, 1, 2, -1, -2, 0};
        for (int i = 0; i < places.length; i++) {
            due("light", bench.from(places[i][0], places[i][1], 0), lights[i]);
            due("cell of light " + lights[i], bench.cell(places[i][0], places[i][1], 0), cells[i]);
        }
    }

    void promise8FarCells() {
        LensBench bench = plain();
        for (int i = 0; i < 8; i++) {
            bench.body(POINT, 0, 0, 400);
        }
        due("the greatest cell", bench.cell(-1, 0, 0), 3199);
        due("the least cell", bench.cell(1, 0, 0), -3199);
        due("the greatest cell along y", bench.cell(0, -1, 1), 3199);
        due("the least cell along y", bench.cell(0, 1, 1), -3199);
    }

    void promise8OnlyAsks() {
        onlyAsks(Boundaries::rich, "cell", CELL, rich().cell(60, -60, 0), 60, -60, 0);
    }
}

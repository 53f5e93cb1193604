/** Promises 20 to 27: pairs, tolerances, models of weights, spots. */
final class WeightsBoundaries extends Boundaries {
    private static final Call PAIR = (bench, v) -> bench.pair(v[0], v[1], v[2], v[3]);
    private static final Call WIPE = (bench, v) -> bench.wipe();
    private static final Call TOLERANCE = (bench, v) -> bench.tolerance(v[0], v[1]);
    private static final Call FITS = (bench, v) -> bench.fits(v[0], v[1], v[2]);
    private static final Call MODELS = (bench, v) -> bench.models(v[0], v[1], v[2]);
    private static final Call SURE = (bench, v) -> bench.sure(v[0], v[1], v[2]);
    private static final Call SPOT = (bench, v) -> bench.spot(v[0], v[1]);
    private static final Call FORGET = (bench, v) -> bench.forget();

    private static final Range[] OF_PAIR = {new Range("x", -30, 30, 3), new Range("y", -30, 30, -4),
        new Range("otherX", -30, 30, 5), new Range("otherY", -30, 30, -6)};
    private static final Range[] OF_SPOT = {new Range("x", -30, 30, 3), new Range("y", -30, 30, -4)};
    private static final Range OF_N = new Range("n", 1, 3, 2);
    private static final Range OF_MOST = new Range("most", 1, 15, 4);

    WeightsBoundaries(Checks checks) {
        super(checks);
    }

    private static int modelsOf(int n, int most) {
        int models = 1;
        for (int body = 0; body < n; body++) {
            models *= most + 1;
        }
        return models;
    }

    /** Three POINTS in the middle, whose WEIGHTS must be 8 together. */
    private static LensBench eightTogether() {
        LensBench bench = new LensBench();
        for (int i = 0; i < 3; i++) {
            bench.body(POINT, 0, 0, 0);
        }
        bench.pair(4, 0, -2, 0);
        return bench;
    }

    private static void tellPairs(LensBench bench, int howMany) {
        for (int i = 0; i < howMany; i++) {
            bench.pair(i, 0, i, 0);
        }
    }

    // ---- promise 20

    void promise20Ends() {
        ends(Boundaries::plain, PAIR, v -> 1, BAD, OF_PAIR);
        ends(Boundaries::rich, PAIR, v -> 3, BAD, OF_PAIR);
    }

    void promise20BadAheadOfFull() {
        ends(Boundaries::full, PAIR, v -> FULL, BAD, OF_PAIR);
    }

    void promise20FromTheFirstToTheTenth() {
        LensBench bench = plain();
        for (int i = 1; i <= 10; i++) {
            due("pair " + i, bench.pair(i, i, -i, -i), i);
            due("pairs", bench.count(1), i);
        }
        due("an eleventh", bench.pair(0, 0, 0, 0), FULL);
        due("pairs", bench.count(1), 10);
    }

    void promise20FullChangesNothing() {
        refused(Boundaries::full, "pair", PAIR, FULL, 0, 0, 0, 0);
        refused(Boundaries::full, "pair", PAIR, FULL, 30, -30, -30, 30);
    }

    void promise20EndsAreTold() {
        int[][] places = {{-30, -30, -30, -29}, {30, 30, 29, 30}, {-30, 30, -29, 30}, {30, -30, 30, -29}};
        for (int[] told : places) {
            LensBench bench = with(POINT, 0);
            bench.tolerance(0, 16);
            bench.pair(told[0], told[1], told[2], told[3]);
            due("16 apart, within 16", bench.fits(1, 1, 0), 1);
            bench.tolerance(0, 15);
            due("16 apart, within 15", bench.fits(1, 1, 0), 0);
        }
        LensBench bench = with(POINT, 0);
        bench.tolerance(0, 0);
        bench.pair(-30, 30, -30, 30);
        due("one place twice", bench.fits(1, 1, 0), 1);
    }

    void promise20EachPairCounts() {
        for (int failing = 0; failing < 10; failing++) {
            LensBench bench = with(POINT, 0);
            for (int i = 0; i < 10; i++) {
                bench.pair(i, 20, i == failing ? i + 1 : i, 20);
            }
            due("pair " + failing + " fails", bench.models(1, 15, 0), 0);
        }
        LensBench bench = with(POINT, 0);
        tellPairs(bench, 10);
        due("none fails", bench.models(1, 15, 0), 16);
    }

    void promise20SeenAtOnce() {
        LensBench bench = with(POINT, 0);
        due("how many FIT", bench.models(1, 15, 0), 16);
        bench.pair(4, 0, -2, 0);
        due("how many FIT with a PAIR", bench.models(1, 15, 0), 1);
        due("fits(1, 15, 7)", bench.fits(1, 15, 7), 0);
        bench.pair(4, 20, 6, 20);
        due("how many FIT with another", bench.models(1, 15, 0), 0);
    }

    // ---- promise 21

    void promise21None() {
        refused(Boundaries::plain, "wipe", WIPE, 0);
        LensBench bench = rich();
        due("of two", bench.wipe(), 2);
        due("of none", bench.wipe(), 0);
        due("pairs", bench.count(1), 0);
    }

    void promise21FromFull() {
        LensBench bench = full();
        due("of ten", bench.wipe(), 10);
        for (int i = 1; i <= 10; i++) {
            due("pair " + i, bench.pair(0, 0, 0, 0), i);
        }
        due("an eleventh", bench.pair(0, 0, 0, 0), FULL);
        due("of ten again", bench.wipe(), 10);
    }

    void promise21FormerPairsDoNotCount() {
        LensBench bench = with(POINT, 0);
        tellPairs(bench, 3);
        bench.pair(4, 20, 6, 20);
        bench.pair(5, 20, 7, 22);
        due("how many FIT", bench.models(1, 15, 0), 0);
        bench.wipe();
        bench.pair(1, 0, 1, 0);
        due("how many FIT with one PAIR", bench.models(1, 15, 0), 16);
        tellPairs(bench, 2);
        due("how many FIT with three", bench.models(1, 15, 0), 16);
    }

    void promise21AllFitWithout() {
        LensBench bench = eightFits();
        due("with a pair", bench.models(1, 15, 0), 1);
        bench.wipe();
        due("without", bench.models(1, 15, 0), 16);
        due("fits(1, 15, 0)", bench.fits(1, 15, 0), 1);
    }

    void promise21SpotsStay() {
        LensBench bench = rich();
        bench.wipe();
        due("spots", bench.count(2), 3);
        due("TOLERANCE", bench.tolerance(0, 0), 60);
    }

    // ---- promise 22

    void promise22Ends() {
        ends(Boundaries::plain, (bench, v) -> bench.tolerance(0, v[0]), v -> 8, BAD, new Range("v", 0, 64, 30));
        ends(Boundaries::plain, (bench, v) -> bench.tolerance(1, v[0]), v -> 5, BAD, new Range("v", 0, 99, 65));
        ends(Boundaries::rich, TOLERANCE, v -> v[0] == 0 ? 60 : 7, BAD, new Range("what", 0, 1, 0), new Range("v", 0, 64, 9));
    }

    void promise22EachItsOwnEnd() {
        due("TOLERANCE 65", plain().tolerance(0, 65), BAD);
        due("NOISE 65", plain().tolerance(1, 65), 5);
        due("TOLERANCE 99", plain().tolerance(0, 99), BAD);
        due("NOISE 99", plain().tolerance(1, 99), 5);
        due("NOISE 100", plain().tolerance(1, 100), BAD);
    }

    void promise22EndsStandAsSet() {
        int[] most = {64, 99};
        for (int what = 0; what <= 1; what++) {
            LensBench bench = plain();
            bench.tolerance(what, most[what]);
            due("most of " + what, bench.tolerance(what, 0), most[what]);
            due("least of " + what, bench.tolerance(what, most[what]), 0);
            due("the other one", bench.tolerance(1 - what, 0), what == 0 ? 5 : 8);
        }
    }

    void promise22BothAtOnceAreBad() {
        refused(Boundaries::rich, "tolerance", TOLERANCE, BAD, 2, 65);
        refused(Boundaries::rich, "tolerance", TOLERANCE, BAD, 2, 100);
        refused(Boundaries::rich, "tolerance", TOLERANCE, BAD, -1, 0);
        refused(Boundaries::rich, "tolerance", TOLERANCE, BAD, 3, 1);
    }

    void promise22SeenAtOnce() {
        LensBench bench = eightFits();
        due("within 8", bench.models(1, 15, 0), 1);
        bench.tolerance(0, 12);
        due("within 12", bench.models(1, 15, 0), 3);
        bench.tolerance(1, 0);
        due("NOISE is not asked", bench.models(1, 15, 0), 3);
        bench.tolerance(0, 11);
        due("within 11", bench.models(1, 15, 0), 1);
    }

    // ---- promise 23

    void promise23Ends() {
        for (int n = 1; n <= 3; n++) {
            int tried = n;
            for (int most = 1; most <= 15; most++) {
                int upTo = most;
                int last = modelsOf(n, most) - 1;
                due("the first", withBodies(8, POINT, 400).fits(n, most, 0), 1);
                due("the last of " + n + ", " + most, withBodies(8, POINT, 400).fits(n, most, last), 1);
                due("one more of " + n + ", " + most, withBodies(8, POINT, 400).fits(n, most, last + 1), BAD);
                due("one less", withBodies(8, POINT, 400).fits(n, most, -1), BAD);
            }
            ends(() -> withBodies(8, POINT, 400), (bench, v) -> bench.fits(tried, 15, v[0]), v -> 1, BAD,
                    new Range("model", 0, modelsOf(n, 15) - 1, 7));
        }
        ends(() -> withBodies(3, POINT, 400), (bench, v) -> bench.fits(v[0], v[1], 1), v -> 1, BAD, OF_N, OF_MOST);
    }

    void promise23NAboveBodies() {
        for (int bodies = 0; bodies <= 8; bodies++) {
            for (int n = 0; n <= 9; n++) {
                boolean isTold = n >= 1 && n <= 3 && n <= bodies;
                due(n + " of " + bodies, withBodies(bodies, POINT, 1).fits(n, 2, 0), isTold ? 1 : BAD);
            }
        }
        LensBench dropped = withBodies(3, POINT, 1);
        dropped.drop();
        due("3 after a drop", dropped.fits(3, 1, 0), BAD);
        due("2 after a drop", dropped.fits(2, 1, 3), 1);
        put(dropped, "p0,0w1;");
        dropped.read();
        due("2 after read()", dropped.fits(2, 1, 3), BAD);
        due("1 after read()", dropped.fits(1, 1, 1), 1);
    }

    void promise23WithinTolerance() {
        int[] weights = {7, 8, 9};
        for (int weight : weights) {
            int apart = Math.abs(96 - 12 * weight);
            for (int slack = 0; slack <= 64; slack++) {
                LensBench bench = eightFits();
                bench.tolerance(0, slack);
                due(apart + " apart, within " + slack, bench.fits(1, 15, weight), apart <= slack ? 1 : 0);
            }
        }
    }

    void promise23AlongBothAxes() {
        int[][] others = {{1, 0}, {-1, 0}, {0, 1}, {0, -1}, {1, 1}, {-1, -1}};
        for (int[] other : others) {
            LensBench bench = with(POINT, 0);
            bench.tolerance(0, 15);
            bench.pair(0, 0, other[0], other[1]);
            due("16 apart, within 15", bench.fits(1, 1, 0), 0);
            bench.tolerance(0, 16);
            due("16 apart, within 16", bench.fits(1, 1, 0), 1);
        }
    }

    void promise23DigitsOfMostAndOne() {
        LensBench bench = eightTogether();
        for (int most = 2; most <= 15; most++) {
            for (int model = 0; model < modelsOf(2, most) && model < 30; model++) {
                int together = model % (most + 1) + model / (most + 1);
                due("model " + model + " by " + most, bench.fits(2, most, model), together == 8 ? 1 : 0);
            }
        }
        due("8 0 0", eightTogether().fits(3, 8, 8), 1);
        due("0 8 0", eightTogether().fits(3, 8, 8 * 9), 1);
        due("0 0 8", eightTogether().fits(3, 8, 8 * 81), 1);
        due("0 0 8 by 15", eightTogether().fits(3, 15, 8 * 256), 1);
        due("15 15 15", eightTogether().fits(3, 15, 4095), 0);
    }

    void promise23OthersAsTheyAre() {
        LensBench bench = eightTogether();
        bench.set(2, WEIGHT, 400);
        due("all tried", bench.fits(3, 8, 8), 1);
        due("the third as it is", bench.fits(2, 8, 8), 0);
        bench.set(2, WEIGHT, 8);
        due("the third alone", bench.fits(2, 8, 0), 1);
        due("as told before", bench.set(2, WEIGHT, 0), 8);
    }

    void promise23RefusedBetweenAskedOnes() {
        LensBench bench = eightTogether();
        due("LEAST", bench.models(2, 15, 1), 8);
        due("a model too many of three", bench.fits(3, 2, 27), BAD);
        due("LEAST again", bench.models(2, 15, 1), 8);
        due("a model too many of one", bench.fits(1, 3, 4), BAD);
        due("SURE", bench.sure(2, 4, 1), 4);
        due("n 4", bench.models(4, 15, 0), BAD);
        due("how many", bench.models(2, 4, 0), 1);
    }

    void promise23OnlyAsks() {
        onlyAsks(Boundaries::rich, "fits", FITS, rich().fits(2, 15, 17), 2, 15, 17);
        onlyAsks(Boundaries::rich, "models", MODELS, rich().models(3, 15, 2), 3, 15, 2);
        onlyAsks(Boundaries::rich, "sure", SURE, rich().sure(3, 15, 2), 3, 15, 2);
    }

    // ---- promise 24

    void promise24Ends() {
        Range what = new Range("what", 0, 3, 0);
        ends(() -> withBodies(3, POINT, 1), MODELS, v -> new int[] {modelsOf(v[0], v[1]), 0, 1, NONE}[v[2]], BAD,
                OF_N, OF_MOST, what);
        ends(Boundaries::full, MODELS, v -> new int[] {0, NONE, 0, NONE}[v[2]], BAD, OF_N, OF_MOST, what);
    }

    void promise24NAboveBodies() {
        for (int bodies = 0; bodies <= 8; bodies++) {
            for (int n = 0; n <= 9; n++) {
                boolean isTold = n >= 1 && n <= 3 && n <= bodies;
                due(n + " of " + bodies, withBodies(bodies, POINT, 1).models(n, 2, 0), isTold ? modelsOf(n, 2) : BAD);
            }
        }
    }

    void promise24AllFitWithoutPairs() {
        for (int n = 1; n <= 3; n++) {
            for (int most = 1; most <= 15; most++) {
                due("models of " + n + " to " + most, withBodies(3, POINT, 1).models(n, most, 0), modelsOf(n, most));
            }
        }
    }

    void promise24NoneFits() {
        LensBench bench = eightFits();
        bench.spot(1, 0);
        due("how many", bench.models(1, 7, 0), 0);
        due("LEAST", bench.models(1, 7, 1), NONE);
        due("TWINS", bench.models(1, 7, 2), 0);
        due("NEXT LOOK", bench.models(1, 7, 3), NONE);
        due("how many up to 8", bench.models(1, 8, 0), 1);
        due("LEAST up to 8", bench.models(1, 8, 1), 8);
        due("TWINS up to 8", bench.models(1, 8, 2), 1);
        due("NEXT LOOK up to 8", bench.models(1, 8, 3), 0);
    }

    void promise24NoSpots() {
        LensBench bench = eightTogether();
        due("TWINS", bench.models(3, 15, 2), 1);
        due("NEXT LOOK", bench.models(3, 15, 3), NONE);
        due("TWINS, none fits", bench.models(1, 7, 2), 0);
        bench.spot(0, 0);
        bench.forget();
        due("NEXT LOOK after forget()", bench.models(3, 15, 3), NONE);
    }

    void promise24OneFits() {
        LensBench bench = eightFits();
        due("how many", bench.models(1, 15, 0), 1);
        due("TWINS without SPOTS", bench.models(1, 15, 2), 1);
        due("NEXT LOOK without SPOTS", bench.models(1, 15, 3), NONE);
        bench.spot(30, 30);
        due("TWINS", bench.models(1, 15, 2), 1);
        due("NEXT LOOK", bench.models(1, 15, 3), 0);
        LensBench alone = with(POINT, 0);
        alone.tolerance(0, 16);
        alone.pair(1, 0, 2, 0);
        due("0 alone: how many", alone.models(1, 15, 0), 1);
        due("0 alone: LEAST", alone.models(1, 15, 1), 0);
        due("0 alone: TWINS", alone.models(1, 15, 2), 1);
    }

    void promise24FullOfPairsAndSpots() {
        LensBench bench = with(POINT, 0);
        SlowBench slow = new SlowBench();
        slow.body(POINT, 0, 0, 0);
        for (int i = 0; i < 10; i++) {
            bench.pair(i, 20 + i, i, 20 + i);
            slow.pair(i, 20 + i, i, 20 + i);
        }
        for (int i = 0; i < 8; i++) {
            bench.spot(8 - i, 8 - i);
            slow.spot(8 - i, 8 - i);
        }
        for (int most = 1; most <= 15; most++) {
            due("how many up to " + most, bench.models(1, most, 0), most + 1);
            due("TWINS up to " + most, bench.models(1, most, 2), slow.models(1, most, 2));
            due("NEXT LOOK up to " + most, bench.models(1, most, 3), slow.models(1, most, 3));
        }
        due("NEXT LOOK", bench.models(1, 15, 3), 7);
    }

    void promise24EachNAndMostAnew() {
        LensBench bench = eightTogether();
        due("one up to 15", bench.models(1, 15, 0), 1);
        due("two up to 15", bench.models(2, 15, 0), 9);
        due("two up to 7", bench.models(2, 7, 0), 7);
        due("one up to 7", bench.models(1, 7, 0), 0);
        due("three up to 15", bench.models(3, 15, 0), 45);
        due("SURE of one up to 15", bench.sure(1, 15, 0), 8);
        due("fits(1, 8, 8)", bench.fits(1, 8, 8), 1);
        due("fits(2, 7, 8)", bench.fits(2, 7, 8), 0);
        due("one up to 15 again", bench.models(1, 15, 0), 1);
    }

    void promise24LeastOfSeveral() {
        for (int most = 3; most <= 15; most++) {
            int first = Math.min(8, most);
            int second = Math.min(8 - first, most);
            int third = 8 - first - second;
            due("LEAST up to " + most, eightTogether().models(3, most, 1),
                    first + (most + 1) * second + (most + 1) * (most + 1) * third);
        }
        due("LEAST of all", withBodies(3, POINT, 1).models(3, 15, 1), 0);
    }

    void promise24LeastWeightsNotLeastNumber() {
        // 96 is 12 times 8 of the first, or 16 times 5 and 16 of the second
        LensBench bench = eightFits();
        bench.body(POINT, 3, 0, 0);
        bench.tolerance(0, 0);
        due("how many", bench.models(2, 15, 0), 2);
        due("8 0", bench.fits(2, 15, 8), 1);
        due("0 5", bench.fits(2, 15, 5 * 16), 1);
        due("LEAST", bench.models(2, 15, 1), 5 * 16);
        due("SURE of the first", bench.sure(2, 15, 0), NONE);
        due("SURE of the second", bench.sure(2, 15, 1), NONE);
        due("SURE of the first up to 7", bench.sure(2, 7, 0), 0);
        due("SURE of the second up to 7", bench.sure(2, 7, 1), 5);
    }

    void promise24EachSpotTellsApart() {
        for (int telling = 0; telling < 8; telling++) {
            LensBench bench = with(POINT, 0);
            for (int i = 0; i < 8; i++) {
                bench.spot(i == telling ? 1 : 30, 30 * (i == telling ? 0 : 1));
            }
            due("TWINS by spot " + telling, bench.models(1, 15, 2), 16);
            due("NEXT LOOK at spot " + telling, bench.models(1, 15, 3), telling);
        }
    }

    void promise24FirstOfSeveralSpots() {
        LensBench bench = with(POINT, 0);
        bench.spot(30, 30);
        bench.spot(0, 1);
        bench.spot(1, 0);
        bench.spot(-1, 0);
        due("of three alike", bench.models(1, 15, 3), 1);
        LensBench alike = with(POINT, 0);
        alike.spot(30, 30);
        alike.spot(-30, 30);
        due("of two that tell nothing", alike.models(1, 15, 3), 0);
        due("TWINS", alike.models(1, 15, 2), 1);
    }

    void promise24CellsAlongBothAxesTellApart() {
        int[][] spots = {{1, 0}, {-1, 0}, {0, 1}, {0, -1}};
        for (int[] spot : spots) {
            LensBench bench = with(POINT, 0);
            bench.spot(spot[0], spot[1]);
            due("TWINS one beside", bench.models(1, 15, 2), 16);
        }
        LensBench askew = with(POINT, 0);
        askew.spot(1, 1);
        due("TWINS at (1, 1): 16 - 8 WEIGHT", askew.models(1, 15, 2), 8);
        LensBench further = with(POINT, 0);
        further.spot(0, 4);
        due("TWINS at (0, 4): 64 - 4 WEIGHT", further.models(1, 15, 2), 5);
        due("TWINS at (0, 4) up to 2", further.models(1, 2, 2), 1);
        due("TWINS at (0, 4) up to 3", further.models(1, 3, 2), 2);
    }

    void promise24EachModelAHeapOfItsOwn() {
        LensBench bench = plain();
        bench.body(POINT, -30, -30, 0);
        bench.body(POINT, 30, -30, 0);
        bench.body(POINT, 0, 30, 0);
        bench.spot(-29, -30);
        bench.spot(29, -30);
        bench.spot(0, 29);
        due("how many", bench.models(3, 15, 0), 4096);
        due("TWINS", bench.models(3, 15, 2), 4096);
        due("NEXT LOOK: 256 with one CELL at each", bench.models(3, 15, 3), 0);
    }

    // ---- promise 25

    void promise25Ends() {
        for (int n = 1; n <= 3; n++) {
            int tried = n;
            ends(() -> withBodies(8, POINT, 400), (bench, v) -> bench.sure(tried, v[0], v[1]), v -> NONE, BAD,
                    OF_MOST, new Range("body", 0, n - 1, 0));
        }
        ends(() -> withBodies(3, POINT, 400), (bench, v) -> bench.sure(v[0], v[1], 0), v -> NONE, BAD, OF_N, OF_MOST);
    }

    void promise25NAboveBodies() {
        for (int bodies = 0; bodies <= 8; bodies++) {
            for (int n = 0; n <= 9; n++) {
                boolean isTold = n >= 1 && n <= 3 && n <= bodies;
                due(n + " of " + bodies, withBodies(bodies, POINT, 1).sure(n, 2, 0), isTold ? NONE : BAD);
            }
        }
    }

    void promise25NoneFits() {
        due("up to 7", eightFits().sure(1, 7, 0), NONE);
        due("up to 8", eightFits().sure(1, 8, 0), 8);
        due("three up to 2", eightTogether().sure(3, 2, 0), NONE);
    }

    void promise25TheSameInAll() {
        LensBench bench = eightTogether();
        for (int body = 0; body < 3; body++) {
            due("24 at most", bench.sure(3, 8, body), NONE);
        }
        for (int body = 0; body < 2; body++) {
            due("4 and 4 up to 4", bench.sure(2, 4, body), 4);
            due("up to 5", bench.sure(2, 5, body), NONE);
        }
        bench.tolerance(0, 11);
        due("8, within 11", bench.sure(1, 15, 0), 8);
        bench.tolerance(0, 12);
        due("7 to 9, within 12", bench.sure(1, 15, 0), NONE);
        due("7 alone, within 12", bench.sure(1, 7, 0), 7);
    }

    void promise25SureOf0() {
        // the lights of (1, 0) and (2, 0) come from 16 + 8 WEIGHT apart
        LensBench bench = with(POINT, 0);
        bench.pair(1, 0, 2, 0);
        bench.tolerance(0, 15);
        due("none fits", bench.sure(1, 15, 0), NONE);
        bench.tolerance(0, 16);
        due("0", bench.sure(1, 15, 0), 0);
        bench.tolerance(0, 24);
        due("0 and 1", bench.sure(1, 15, 0), NONE);
    }

    // ---- promise 26

    void promise26Ends() {
        ends(Boundaries::plain, SPOT, v -> 1, BAD, OF_SPOT);
        ends(Boundaries::rich, SPOT, v -> 4, BAD, OF_SPOT);
    }

    void promise26BadAheadOfFull() {
        ends(Boundaries::full, SPOT, v -> FULL, BAD, OF_SPOT);
    }

    void promise26FromTheFirstToTheEighth() {
        LensBench bench = plain();
        for (int i = 1; i <= 8; i++) {
            due("spot " + i, bench.spot(i, -i), i);
            due("spots", bench.count(2), i);
        }
        due("a ninth", bench.spot(0, 0), FULL);
        due("spots", bench.count(2), 8);
    }

    void promise26FullChangesNothing() {
        refused(Boundaries::full, "spot", SPOT, FULL, 0, 0);
        refused(Boundaries::full, "spot", SPOT, FULL, -30, 30);
    }

    void promise26EndsTellApart() {
        int[][] corners = {{-30, -30}, {-30, 30}, {30, -30}, {30, 30}};
        for (int[] corner : corners) {
            LensBench bench = plain();
            bench.body(POINT, corner[0] - Integer.signum(corner[0]), corner[1], 0);
            bench.spot(corner[0], corner[1]);
            due("TWINS beside a body", bench.models(1, 15, 2), 16);
        }
    }

    void promise26SeenAtOnce() {
        LensBench bench = with(POINT, 0);
        due("TWINS", bench.models(1, 15, 2), 1);
        bench.spot(1, 1);
        due("TWINS with a SPOT", bench.models(1, 15, 2), 8);
        bench.spot(1, 0);
        due("TWINS with two", bench.models(1, 15, 2), 16);
        due("NEXT LOOK with two", bench.models(1, 15, 3), 1);
    }

    // ---- promise 27

    void promise27None() {
        refused(Boundaries::plain, "forget", FORGET, 0);
        LensBench bench = rich();
        due("of three", bench.forget(), 3);
        due("of none", bench.forget(), 0);
        due("spots", bench.count(2), 0);
        due("pairs", bench.count(1), 2);
    }

    void promise27FromFull() {
        LensBench bench = full();
        due("of eight", bench.forget(), 8);
        for (int i = 1; i <= 8; i++) {
            due("spot " + i, bench.spot(0, 0), i);
        }
        due("a ninth", bench.spot(0, 0), FULL);
        due("of eight again", bench.forget(), 8);
    }

    void promise27NothingIsToldApart() {
        LensBench bench = with(POINT, 0);
        bench.spot(1, 0);
        due("TWINS", bench.models(1, 15, 2), 16);
        bench.forget();
        due("TWINS after it", bench.models(1, 15, 2), 1);
        due("NEXT LOOK after it", bench.models(1, 15, 3), NONE);
    }
}

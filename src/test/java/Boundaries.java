import java.lang.reflect.Method;
import java.util.ArrayList;
import java.util.Arrays;
import java.util.Comparator;
import java.util.List;

/** What the boundary tests share. A test is a method without parameters whose name begins with its promise's number. */
abstract class Boundaries {
    static final int BAD = LensBench.BAD, STATE = LensBench.STATE, FULL = LensBench.FULL;
    static final int NONE = LensBench.NONE, NO = LensBench.NO;
    static final int POINT = 0, SOFT = 1, CUT = 2;
    static final int KIND = 0, X = 1, Y = 2, WEIGHT = 3, CORE = 4, EDGE = 5;
    static final int[] LEAST_OF = {0, -40, -40, 0, 0, 0};
    static final int[] MOST_OF = {2, 40, 40, 400, 900, 90};
    static final int MIN = Integer.MIN_VALUE, MAX = Integer.MAX_VALUE;

    /** Makes the same bench each time that it is asked. */
    interface Scene {
        LensBench made();
    }

    interface Call {
        long on(LensBench bench, int[] numbers);
    }

    interface Due {
        long to(int[] numbers);
    }

    /** One number of a call: the ends of what it may be, and one that it often is. */
    record Range(String name, int least, int most, int usual) {
        /** The first refused ones, the last ints, and numbers that a byte or a short would take for others. */
        List<Integer> beyond() {
            List<Integer> all = new ArrayList<>(List.of(least - 1, most + 1, MIN, MIN + 1, MAX));
            for (int wrapped : new int[] {usual + 256, usual - 256, usual + 65536, usual - 65536}) {
                if (wrapped < least || wrapped > most) {
                    all.add(wrapped);
                }
            }
            return all;
        }
    }

    private final Checks checks;

    Boundaries(Checks counted) {
        checks = counted;
    }

    /** Runs all tests of a class; how many each promise has is counted in "ofPromise". */
    final void runAll(int[] ofPromise) throws ReflectiveOperationException {
        Method[] methods = getClass().getDeclaredMethods();
        Arrays.sort(methods, Comparator.comparing(Method::getName));
        for (Method method : methods) {
            String number = method.getName().replaceFirst("^promise([0-9]+)[A-Z].*$", "$1");
            if (!number.equals(method.getName())) {
                checks.begin(method.getName());
                method.invoke(this);
                ofPromise[Integer.parseInt(number)]++;
            }
        }
    }

    final void due(String call, long got, long want) {
        checks.due(call, got, want);
    }

    /** All of the numbers' ends together are taken; one or two of them beyond are refused, and change nothing. */
    final void ends(Scene scene, Call call, Due due, long refusal, Range... ranges) {
        endsAreTaken(scene, call, due, ranges);
        List<Long> untouched = Snapshot.of(scene.made());
        for (int i = 0; i < ranges.length; i++) {
            for (int beyond : ranges[i].beyond()) {
                int[] numbers = usual(ranges);
                numbers[i] = beyond;
                refused(scene, untouched, ranges[i].name, call, numbers, refusal);
            }
            for (int j = i + 1; j < ranges.length; j++) {
                int[] numbers = usual(ranges);
                numbers[i] = ranges[i].most + 1;
                numbers[j] = ranges[j].least - 1;
                due(Arrays.toString(numbers), call.on(scene.made(), numbers), refusal);
            }
        }
    }

    private void endsAreTaken(Scene scene, Call call, Due due, Range[] ranges) {
        due(Arrays.toString(usual(ranges)), call.on(scene.made(), usual(ranges)), due.to(usual(ranges)));
        for (int corner = 0; corner < 1 << ranges.length; corner++) {
            int[] numbers = new int[ranges.length];
            for (int i = 0; i < ranges.length; i++) {
                numbers[i] = (corner >> i & 1) == 0 ? ranges[i].least : ranges[i].most;
            }
            due(Arrays.toString(numbers), call.on(scene.made(), numbers), due.to(numbers));
        }
        for (int i = 0; i < ranges.length; i++) {
            int[] numbers = usual(ranges);
            numbers[i] = ranges[i].least;
            due(Arrays.toString(numbers), call.on(scene.made(), numbers), due.to(numbers));
            numbers[i] = ranges[i].most;
            due(Arrays.toString(numbers), call.on(scene.made(), numbers), due.to(numbers));
        }
    }

    private static int[] usual(Range[] ranges) {
        int[] numbers = new int[ranges.length];
        for (int i = 0; i < ranges.length; i++) {
            numbers[i] = ranges[i].usual;
        }
        return numbers;
    }

    /** The call answers "refusal", and the bench tells the same as one that was not called. */
    final void refused(Scene scene, String name, Call call, long refusal, int... numbers) {
        refused(scene, Snapshot.of(scene.made()), name, call, numbers, refusal);
    }

    private void refused(Scene scene, List<Long> untouched, String name, Call call, int[] numbers, long refusal) {
        LensBench bench = scene.made();
        String asked = name + " " + Arrays.toString(numbers);
        due(asked, call.on(bench, numbers), refusal);
        checks.dueTrue(asked + " changes nothing", Snapshot.of(bench).equals(untouched));
    }

    /** The call answers as due and changes nothing. */
    final void onlyAsks(Scene scene, String name, Call call, long want, int... numbers) {
        refused(scene, name, call, want, numbers);
    }

    final void sees(Scene scene, String change, Call call, int... numbers) {
        LensBench bench = scene.made();
        call.on(bench, numbers);
        checks.dueTrue("a snapshot shows " + change, !Snapshot.of(bench).equals(Snapshot.of(scene.made())));
    }

    // ---- benches

    static LensBench plain() {
        return new LensBench();
    }

    /** Bodies of one kind and weight, one behind the other from (0, 0) along x. */
    static LensBench withBodies(int howMany, int kind, int weight) {
        LensBench bench = new LensBench();
        for (int i = 0; i < howMany; i++) {
            bench.body(kind, i, 0, weight);
        }
        return bench;
    }

    /** A body of a kind and weight in the middle. */
    static LensBench with(int kind, int weight) {
        return withBodies(1, kind, weight);
    }

    static LensBench withFeatures(int kind, int weight, int core, int edge) {
        LensBench bench = with(kind, weight);
        bench.set(0, CORE, core);
        bench.set(0, EDGE, edge);
        return bench;
    }

    static LensBench withField(int g, int h) {
        LensBench bench = new LensBench();
        bench.field(0, g);
        bench.field(1, h);
        return bench;
    }

    /** A POINT in the middle; the lights of (4, 0) and (-2, 0) come from 96 - 12 WEIGHT apart. */
    static LensBench eightFits() {
        LensBench bench = with(POINT, 0);
        bench.pair(4, 0, -2, 0);
        return bench;
    }

    static void put(LensBench bench, String text) {
        for (int at = 0; at < text.length(); at += 8) {
            int n = Math.min(8, text.length() - at);
            long v = 0;
            for (int i = 0; i < n; i++) {
                v = v << 8 | text.charAt(at + i) & 255;
            }
            bench.type(v, n);
        }
    }

    /** Something of everything, nothing full: each change of it shows in a snapshot. */
    static LensBench rich() {
        LensBench bench = new LensBench();
        bench.body(POINT, 0, 0, 9);
        bench.body(SOFT, 6, 2, 5);
        bench.body(CUT, -5, 3, 40);
        bench.set(1, CORE, 8);
        bench.set(2, CORE, 10);
        bench.set(2, EDGE, 12);
        bench.field(0, 1);
        bench.field(1, -2);
        bench.tolerance(0, 60);
        bench.tolerance(1, 7);
        bench.pair(5, 0, -1, 0);
        bench.pair(0, 9, 1, 9);
        bench.spot(3, 3);
        bench.spot(-8, 4);
        bench.spot(0, 9);
        tellBrightness(bench);
        put(bench, "p1,2w3;s-4,5w60o7;");
        bench.bend(CUT, 2, 1, 1, 0);
        return bench;
    }

    /** Eight bodies, 200 bytes, ten pairs, eight spots. */
    static LensBench full() {
        LensBench bench = new LensBench();
        for (int i = 0; i < 8; i++) {
            bench.body(i % 3, 5 * i - 17, 9 - 3 * i, 11 * i + 3);
            bench.set(i, CORE, i + 1);
            bench.set(i, EDGE, 30 + i);
            bench.spot(i - 3, i);
        }
        for (int i = 0; i < 10; i++) {
            bench.pair(i, 2 * i, i, 2 * i + (i == 9 ? 1 : 0));
        }
        tellBrightness(bench);
        for (int i = 0; i < 10; i++) {
            put(bench, "p1,2w3;s-4,5w60o7; 0");
        }
        bench.bend(SOFT, 7, 1, 1, 0);
        return bench;
    }

    private static void tellBrightness(LensBench bench) {
        for (int x = -3; x <= 3; x++) {
            bench.bright(x, 0, 10 * (x + 3));
            bench.bright(x, 1, 40 + x);
        }
        bench.bright(-24, -24, 1);
        bench.bright(24, 24, 99);
    }
}

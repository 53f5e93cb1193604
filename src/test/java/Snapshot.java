import java.util.ArrayList;
import java.util.List;

/** All that a bench tells of its state, in some 300 calls. The bench is used up by it: ask a bench that was made for it. */
final class Snapshot {
    private static final int[][] PLACES = {{0, 0}, {1, 0}, {0, 1}, {-24, -24}, {24, 24}, {-24, 24}, {24, -24}, {60, -60},
        {-60, 60}, {7, -3}, {-11, 5}, {2, 2}};
    private static final int[] LEAST_TAKEN = {0, -40, -40, 0, 0, 0};

    private Snapshot() {
    }

    static List<Long> of(LensBench bench) {
        List<Long> answers = new ArrayList<>();
        answers.add(bench.trace());
        for (int what = 0; what <= 5; what++) {
            answers.add((long) bench.count(what));
        }
        lookThrough(bench, answers);
        lookFar(bench, answers);
        tryWeights(bench, answers);
        takeBrightness(bench, answers);
        takeText(bench, answers);
        takeBodies(bench, answers);
        answers.add((long) bench.field(0, 0));
        answers.add((long) bench.field(1, 0));
        return answers;
    }

    private static void lookThrough(LensBench bench, List<Long> answers) {
        for (int[] place : PLACES) {
            answers.add((long) bench.from(place[0], place[1], 0));
            answers.add((long) bench.from(place[0], place[1], 1));
        }
        for (int what = 0; what <= 3; what++) {
            answers.add((long) bench.rings(what));
        }
        for (int what = 0; what <= 2; what++) {
            answers.add((long) bench.brightest(what));
        }
        answers.add((long) bench.stretch(7));
        answers.add(bench.delay(-3, -4, 5, 6, 7, 8));
    }

    private static void lookFar(LensBench bench, List<Long> answers) {
        answers.add((long) bench.contradicts());
        for (int[] place : PLACES) {
            int x = Math.max(-24, Math.min(24, place[0]));
            int y = Math.max(-24, Math.min(24, place[1]));
            answers.add((long) bench.filled(x, y));
            answers.add((long) bench.far(x, y));
        }
    }

    private static void tryWeights(LensBench bench, List<Long> answers) {
        for (int what = 0; what <= 3; what++) {
            answers.add((long) bench.models(1, 15, what));
            answers.add((long) bench.models(2, 5, what));
        }
        answers.add((long) bench.sure(1, 15, 0));
        answers.add((long) bench.tolerance(0, 0));
        answers.add((long) bench.models(2, 15, 0));
        answers.add((long) bench.tolerance(0, 64));
        answers.add((long) bench.models(2, 15, 0));
        answers.add((long) bench.tolerance(1, 0));
        answers.add((long) bench.contradicts());
        answers.add((long) bench.wipe());
        answers.add((long) bench.models(2, 15, 2));
        answers.add((long) bench.models(2, 15, 3));
        answers.add((long) bench.forget());
    }

    private static void takeBrightness(LensBench bench, List<Long> answers) {
        for (int y = -3; y <= 3; y++) {
            for (int x = -3; x <= 3; x++) {
                answers.add((long) bench.bright(x, y, LensBench.NONE));
            }
        }
        answers.add((long) bench.bright(-24, -24, LensBench.NONE));
        answers.add((long) bench.bright(24, 24, LensBench.NONE));
        answers.add((long) bench.count(3));
    }

    /** What stands in the text: what it tells, or where it fails; the bodies are asked ahead of that, and behind it. */
    private static void takeText(LensBench bench, List<Long> answers) {
        takeBodies(bench, answers);
        answers.add((long) bench.read());
        answers.add((long) bench.clear());
    }

    private static void takeBodies(LensBench bench, List<Long> answers) {
        for (int body = 0; body < 9; body++) {
            for (int what = 0; what <= 5; what++) {
                answers.add((long) bench.set(body, what, LEAST_TAKEN[what]));
            }
        }
    }
}

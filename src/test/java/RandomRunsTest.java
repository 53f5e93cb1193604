import java.util.Random;

/** Runs of up to 512 calls by fixed seeds, each answer held against SlowBench. */
public final class RandomRunsTest {
    private static final Checks checks = new Checks();

    // A text of nine items with a sign more, typed by eights, cleared ahead and read behind.
    private static final int MOST_AT_ONCE = 30;

    private final Random random;
    private final int seed;
    private final int focus;
    private int asked;
    private final LensBench fast = new LensBench();
    private final SlowBench slow = new SlowBench();

    private RandomRunsTest(int number) {
        seed = number;
        random = new Random(number);
        focus = new int[] {0, 0, -20, 20}[number % 4];
    }

    public static void main(String[] args) {
        for (int seed = 1; seed <= 100; seed++) {
            new RandomRunsTest(seed).run();
        }
        for (int seed = 1001; seed <= 1060; seed++) {
            new RandomRunsTest(seed).lookAtAll();
        }
        checks.end();
    }

    /** Every ring, every group of the cell with most pictures, through a lens of many bodies. */
    private void lookAtAll() {
        int bodies = 1 + random.nextInt(8);
        for (int i = 0; i < bodies; i++) {
            int kind = random.nextInt(3);
            int x = random.nextInt(61) - 30;
            int y = random.nextInt(61) - 30;
            int weight = random.nextInt(random.nextBoolean() ? 401 : 61);
            due("body", i, fast.body(kind, x, y, weight), slow.body(kind, x, y, weight));
            int edge = random.nextInt(40);
            due("set", i, fast.set(i, 5, edge), slow.set(i, 5, edge));
        }
        for (int what = 0; what < 4; what++) {
            due("rings", what, fast.rings(what), slow.rings(what));
            due("brightest", what, fast.brightest(what), slow.brightest(what));
        }
        int cellX = slow.brightest(1);
        int cellY = slow.brightest(2);
        for (int near = -1; near <= 1; near++) {
            int groups = slow.pictures(cellX + near, cellY, 1);
            due("pictures", near, fast.pictures(cellX + near, cellY, 1), groups);
            for (int i = 0; i <= Math.min(groups, 5); i++) {
                for (int what = 0; what < 4; what++) {
                    due("group", i, fast.group(cellX + near, cellY, i, what), slow.group(cellX + near, cellY, i, what));
                }
            }
        }
    }

    private void run() {
        int calls = 100 + random.nextInt(412 - MOST_AT_ONCE - 7);
        for (int i = 0; asked < calls; i++) {
            call(i);
        }
        for (int what = 0; what < 6; what++) {
            due("count " + what, asked, fast.count(what), slow.count(what));
        }
        due("trace", asked, fast.trace(), slow.trace());
    }

    private void due(String name, int call, long got, long want) {
        asked++;
        checks.due("seed " + seed + ", call " + call + ": " + name, got, want);
    }

    /** Mostly within the bounds, often on them, now and then beyond. */
    private int pick(int least, int most) {
        switch (random.nextInt(24)) {
            case 0:
                return least;
            case 1:
                return most;
            case 2:
                return random.nextInt(4) == 0 ? least - 1 : least;
            case 3:
                return random.nextInt(4) == 0 ? most + 1 : most;
            case 4:
                return random.nextInt(8) == 0 ? random.nextInt() : least;
            default:
                return least + random.nextInt(most - least + 1);
        }
    }

    /** Most calls of a run meet in one corner or in the middle. */
    private int near(int rim) {
        return random.nextInt(4) == 0 ? pick(-rim, rim) : pick(Math.max(-rim, focus - 9), Math.min(rim, focus + 9));
    }

    private void call(int i) {
        int choice = random.nextInt(100);
        if (choice < 14) {
            callBodies(i);
        } else if (choice < 30) {
            callPlaces(i);
        } else if (choice < 52) {
            callPictures(i);
        } else if (choice < 62) {
            callTexts(i);
        } else if (choice < 84) {
            callWeights(i);
        } else {
            callBrightness(i);
        }
    }

    private void callBodies(int i) {
        switch (random.nextInt(8)) {
            case 0, 1 -> {
                int kind = pick(0, 2);
                int x = near(40);
                int y = near(40);
                int weight = random.nextBoolean() ? pick(0, 60) : pick(0, 400);
                due("body", i, fast.body(kind, x, y, weight), slow.body(kind, x, y, weight));
            }
            case 2 -> {
                if (random.nextInt(3) == 0) {
                    due("drop", i, fast.drop(), slow.drop());
                }
            }
            case 3 -> {
                int what = pick(0, 1);
                int v = pick(-8, 8);
                due("field", i, fast.field(what, v), slow.field(what, v));
            }
            default -> {
                int[] least = {0, -40, -40, 0, 0, 0};
                int[] most = {2, 40, 40, 400, 900, 90};
                int body = pick(0, Math.max(0, slow.count(0) - 1));
                int what = pick(0, 5);
                int known = Math.max(0, Math.min(5, what));
                int v = pick(least[known], random.nextBoolean() ? Math.min(most[known], 20) : most[known]);
                due("set", i, fast.set(body, what, v), slow.set(body, what, v));
            }
        }
    }

    private void callPlaces(int i) {
        int x = near(60);
        int y = near(60);
        int axis = pick(0, 1);
        switch (random.nextInt(4)) {
            case 0 -> due("from", i, fast.from(x, y, axis), slow.from(x, y, axis));
            case 1 -> due("cell", i, fast.cell(x, y, axis), slow.cell(x, y, axis));
            default -> {
                int kind = pick(0, 2);
                int body = pick(0, Math.max(0, slow.count(0) - 1));
                due("bend", i, fast.bend(kind, body, x, y, axis), slow.bend(kind, body, x, y, axis));
            }
        }
    }

    private void callPictures(int i) {
        int x = near(24);
        int y = near(24);
        switch (random.nextInt(10)) {
            case 0, 1 -> {
                int cellX = random.nextBoolean() ? near(99) : slow.cell(near(24), near(24), 0);
                int what = pick(0, 1);
                due("pictures", i, fast.pictures(cellX, y, what), slow.pictures(cellX, y, what));
            }
            case 2, 3, 4 -> {
                int cellX = random.nextBoolean() ? near(99) : slow.cell(x, y, 0);
                int cellY = random.nextBoolean() ? near(99) : slow.cell(x, y, 1);
                int number = pick(0, 2);
                int what = pick(0, 3);
                due("group", i, fast.group(cellX, cellY, number, what), slow.group(cellX, cellY, number, what));
            }
            case 5 -> due("parity", i, fast.parity(x, y), slow.parity(x, y));
            case 6 -> due("critical", i, fast.critical(x, y), slow.critical(x, y));
            case 7 -> {
                int what = pick(0, 3);
                if (random.nextInt(3) == 0) {
                    due("rings", i, fast.rings(what), slow.rings(what));
                } else {
                    due("brightest", i, fast.brightest(what), slow.brightest(what));
                }
            }
            case 8 -> {
                int toX = near(24);
                int toY = near(24);
                int farX = pick(-2000, 2000);
                int farY = pick(-2000, 2000);
                due("delay", i, fast.delay(x, y, toX, toY, farX, farY), slow.delay(x, y, toX, toY, farX, farY));
            }
            default -> {
                int n = pick(1, 24);
                due("stretch", i, fast.stretch(n), slow.stretch(n));
            }
        }
    }

    private void callTexts(int i) {
        switch (random.nextInt(6)) {
            case 0 -> {
                long v = random.nextLong();
                int n = pick(1, 8);
                due("type", i, fast.type(v, n), slow.type(v, n));
            }
            case 1 -> due("clear", i, fast.clear(), slow.clear());
            case 2 -> due("read", i, fast.read(), slow.read());
            default -> {
                if (random.nextInt(3) != 0) {
                    due("clear", i, fast.clear(), slow.clear());
                }
                typeAll(i, someText());
                due("read", i, fast.read(), slow.read());
            }
        }
    }

    private void typeAll(int i, String text) {
        for (int at = 0; at < text.length(); at += 8) {
            int n = Math.min(8, text.length() - at);
            long v = 0;
            for (int k = 0; k < n; k++) {
                v = v << 8 | text.charAt(at + k);
            }
            due("type", i, fast.type(v, n), slow.type(v, n));
        }
    }

    private String someText() {
        StringBuilder text = new StringBuilder();
        int items = random.nextInt(10);
        for (int item = 0; item < items; item++) {
            int kind = random.nextInt(3);
            text.append("psc".charAt(kind)).append(pick(-40, 40)).append(',').append(pick(-40, 40));
            text.append('w').append(pick(0, 400));
            if (kind > 0) {
                text.append('o').append(pick(0, 900));
            }
            if (kind > 1) {
                text.append('e').append(pick(0, 90));
            }
            text.append(';');
        }
        if (random.nextInt(2) == 0 && text.length() > 0) {
            int at = random.nextInt(text.length());
            String signs = "psc,woe;-0123456789 x";
            char sign = signs.charAt(random.nextInt(signs.length()));
            switch (random.nextInt(4)) {
                case 0 -> text.setCharAt(at, sign);
                case 1 -> text.insert(at, sign);
                case 2 -> text.deleteCharAt(at);
                default -> text.setLength(at);
            }
        }
        return text.toString();
    }

    private void callWeights(int i) {
        int n = pick(1, Math.max(1, Math.min(3, slow.count(0))));
        int most = n == 3 ? pick(1, 7) : pick(1, 15);
        switch (random.nextInt(10)) {
            case 0 -> pairThatMayFit(i);
            case 1 -> {
                if (random.nextInt(2) == 0) {
                    due("wipe", i, fast.wipe(), slow.wipe());
                } else {
                    due("forget", i, fast.forget(), slow.forget());
                }
            }
            case 2 -> {
                int what = pick(0, 1);
                int v = what == 0 ? pick(0, 64) : pick(0, 99);
                due("tolerance", i, fast.tolerance(what, v), slow.tolerance(what, v));
            }
            case 3 -> {
                int x = near(30);
                int y = near(30);
                due("spot", i, fast.spot(x, y), slow.spot(x, y));
            }
            case 4, 5 -> {
                int model = pick(0, 20);
                due("fits", i, fast.fits(n, most, model), slow.fits(n, most, model));
            }
            case 6 -> {
                int body = pick(0, n - 1 < 0 ? 0 : Math.min(2, n - 1));
                due("sure", i, fast.sure(n, most, body), slow.sure(n, most, body));
            }
            default -> {
                int what = pick(0, 3);
                due("models", i, fast.models(n, most, what), slow.models(n, most, what));
            }
        }
    }

    /** Places near one another, or chosen from many as those whose light comes from near places. */
    private void pairThatMayFit(int i) {
        int[] best = {near(30), near(30), near(30), near(30)};
        long apart = Long.MAX_VALUE;
        for (int tries = random.nextInt(300); tries > 0; tries--) {
            int[] four = {near(30), near(30), near(30), near(30)};
            long dx = slow.from(four[0], four[1], 0) - (long) slow.from(four[2], four[3], 0);
            long dy = slow.from(four[0], four[1], 1) - (long) slow.from(four[2], four[3], 1);
            if (Math.abs(dx) + Math.abs(dy) < apart) {
                apart = Math.abs(dx) + Math.abs(dy);
                best = four;
            }
        }
        due("pair", i, fast.pair(best[0], best[1], best[2], best[3]), slow.pair(best[0], best[1], best[2], best[3]));
    }

    private void callBrightness(int i) {
        int x = near(24);
        int y = near(24);
        switch (random.nextInt(8)) {
            case 0, 1, 2 -> {
                for (int k = 0; k < 6; k++) {
                    int atX = near(24);
                    int atY = near(24);
                    int v = random.nextInt(6) == 0 ? -9 : pick(0, 99);
                    due("bright", i, fast.bright(atX, atY, v), slow.bright(atX, atY, v));
                }
            }
            case 3 -> due("contradicts", i, fast.contradicts(), slow.contradicts());
            case 4 -> due("filled", i, fast.filled(x, y), slow.filled(x, y));
            case 5 -> {
                int what = pick(0, 5);
                due("count", i, fast.count(what), slow.count(what));
                due("trace", i, fast.trace(), slow.trace());
            }
            default -> {
                int cellX = random.nextBoolean() ? near(99) : slow.cell(x, y, 0);
                int cellY = random.nextBoolean() ? near(99) : slow.cell(x, y, 1);
                due("far", i, fast.far(cellX, cellY), slow.far(cellX, cellY));
            }
        }
    }
}

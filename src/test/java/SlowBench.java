import java.util.ArrayList;
import java.util.Arrays;
import java.util.HashSet;
import java.util.LinkedHashMap;
import java.util.List;
import java.util.Map;
import java.util.Set;
import java.util.TreeSet;
import java.util.regex.Matcher;
import java.util.regex.Pattern;

/** The document once more, with the whole Java library, nothing kept and nothing fast: what LensBench is held against. */
final class SlowBench {
    private static final int NO = -1000000000, NONE = -9;

    private record Spot(int x, int y) { }

    private record Pair(Spot one, Spot other) { }

    private final List<int[]> bodies = new ArrayList<>();
    private final int[] field = new int[2];
    private final List<Pair> pairs = new ArrayList<>();
    private final List<Spot> spots = new ArrayList<>();
    private final int[] tolerances = {8, 5};
    private final Map<Spot, Integer> told = new LinkedHashMap<>();
    private final StringBuilder text = new StringBuilder();
    private long trace;

    private static boolean out(int v, int rim) {
        return v < -rim || v > rim;
    }

    private static boolean fitsFeature(int what, int v) {
        return switch (what) {
            case 0 -> v >= 0 && v <= 2;
            case 1, 2 -> !out(v, 40);
            case 3 -> v >= 0 && v <= 400;
            case 4 -> v >= 0 && v <= 900;
            case 5 -> v >= 0 && v <= 90;
            default -> false;
        };
    }

    int body(int kind, int x, int y, int weight) {
        int[] all = {kind, x, y, weight, 0, 90};
        for (int what = 0; what < 6; what++) {
            if (!fitsFeature(what, all[what])) {
                return -1;
            }
        }
        if (bodies.size() == 8) {
            return -3;
        }
        bodies.add(all);
        return bodies.size() - 1;
    }

    int set(int body, int what, int v) {
        if (body < 0 || body >= bodies.size() || !fitsFeature(what, v)) {
            return NO;
        }
        int was = bodies.get(body)[what];
        bodies.get(body)[what] = v;
        return was;
    }

    int drop() {
        if (bodies.isEmpty()) {
            return -2;
        }
        bodies.remove(bodies.size() - 1);
        return bodies.size();
    }

    int field(int what, int v) {
        if (what < 0 || what > 1 || out(v, 8)) {
            return NO;
        }
        int was = field[what];
        field[what] = v;
        return was;
    }

    private static long point(int[] body, long dx, long dy, int axis) {
        long r = dx * dx + dy * dy;
        return r == 0 ? 0 : 16L * body[3] * (axis == 0 ? dx : dy) / r;
    }

    private static long soft(int[] body, long dx, long dy, int axis) {
        long r = dx * dx + dy * dy;
        return r + body[4] == 0 ? 0 : point(body, dx, dy, axis) * r / (r + body[4]);
    }

    private static long cut(int[] body, long dx, long dy, int axis) {
        return Math.sqrt(dx * dx + dy * dy) > body[5] ? 0 : soft(body, dx, dy, axis);
    }

    private static long bent(int kind, int[] body, int x, int y, int axis) {
        long dx = x - body[1];
        long dy = y - body[2];
        return kind == 0 ? point(body, dx, dy, axis) : kind == 1 ? soft(body, dx, dy, axis) : cut(body, dx, dy, axis);
    }

    int bend(int kind, int body, int x, int y, int axis) {
        if (kind < 0 || kind > 2 || body < 0 || body >= bodies.size() || out(x, 60) || out(y, 60) || axis < 0 || axis > 1) {
            return NO;
        }
        int[] b = bodies.get(body);
        trace += 1 + (kind >= 1 ? 10 : 0) + (kind >= 2 ? 100 : 0);
        return (int) bent(kind, b, x, y, axis);
    }

    private static long light(List<int[]> bodies, int[] field, int x, int y, int axis) {
        long sum = 16L * (axis == 0 ? x : y);
        sum -= axis == 0 ? field[0] * x + field[1] * y : field[1] * x - field[0] * y;
        for (int[] body : bodies) {
            sum -= bent(body[0], body, x, y, axis);
        }
        return sum;
    }

    private long light(int x, int y, int axis) {
        return light(bodies, field, x, y, axis);
    }

    private static long cellOf(long light) {
        return (long) Math.floor((light + 8) / 16.0);
    }

    int from(int x, int y, int axis) {
        return out(x, 60) || out(y, 60) || axis < 0 || axis > 1 ? NO : (int) light(x, y, axis);
    }

    int cell(int x, int y, int axis) {
        return out(x, 60) || out(y, 60) || axis < 0 || axis > 1 ? NO : (int) cellOf(light(x, y, axis));
    }

    private static List<Spot> pixels() {
        List<Spot> all = new ArrayList<>();
        for (int y = -24; y <= 24; y++) {
            for (int x = -24; x <= 24; x++) {
                all.add(new Spot(x, y));
            }
        }
        return all;
    }

    private Spot cellAt(Spot pixel) {
        return new Spot((int) cellOf(light(pixel.x, pixel.y, 0)), (int) cellOf(light(pixel.x, pixel.y, 1)));
    }

    private List<Spot> pictures(Spot cell) {
        List<Spot> found = new ArrayList<>();
        for (Spot pixel : pixels()) {
            if (cellAt(pixel).equals(cell)) {
                found.add(pixel);
            }
        }
        return found;
    }

    private static List<List<Spot>> groups(List<Spot> pixels) {
        List<List<Spot>> groups = new ArrayList<>();
        for (Spot pixel : pixels) {
            List<Spot> joined = new ArrayList<>(List.of(pixel));
            List<List<Spot>> apart = new ArrayList<>();
            for (List<Spot> group : groups) {
                boolean near = false;
                for (Spot member : group) {
                    near |= Math.abs(member.x - pixel.x) <= 1 && Math.abs(member.y - pixel.y) <= 1;
                }
                if (near) {
                    joined.addAll(group);
                } else {
                    apart.add(group);
                }
            }
            apart.add(joined);
            groups = apart;
        }
        for (List<Spot> group : groups) {
            group.sort(SlowBench::inRows);
        }
        groups.sort((one, other) -> inRows(one.get(0), other.get(0)));
        return groups;
    }

    private static int inRows(Spot one, Spot other) {
        return one.y != other.y ? Integer.compare(one.y, other.y) : Integer.compare(one.x, other.x);
    }

    int pictures(int x, int y, int what) {
        if (out(x, 99) || out(y, 99) || what < 0 || what > 1) {
            return -1;
        }
        List<Spot> found = pictures(new Spot(x, y));
        return what == 0 ? found.size() : groups(found).size();
    }

    int group(int x, int y, int i, int what) {
        if (out(x, 99) || out(y, 99) || what < 0 || what > 3) {
            return NO;
        }
        List<List<Spot>> found = groups(pictures(new Spot(x, y)));
        if (i < 0 || i >= found.size()) {
            return NO;
        }
        Spot first = found.get(i).get(0);
        return switch (what) {
            case 0 -> first.x;
            case 1 -> first.y;
            case 2 -> found.get(i).size();
            default -> parity(first.x, first.y);
        };
    }

    private long[] changes(int x, int y) {
        return new long[] {light(x + 1, y, 0) - light(x - 1, y, 0), light(x + 1, y, 1) - light(x - 1, y, 1),
            light(x, y + 1, 0) - light(x, y - 1, 0), light(x, y + 1, 1) - light(x, y - 1, 1)};
    }

    int parity(int x, int y) {
        if (out(x, 24) || out(y, 24)) {
            return NO;
        }
        long[] c = changes(x, y);
        return Long.signum(c[0] * c[3] - c[1] * c[2]);
    }

    int critical(int x, int y) {
        if (out(x, 24) || out(y, 24)) {
            return -1;
        }
        boolean right = x != 24 && parity(x, y) != parity(x + 1, y);
        boolean below = y != 24 && parity(x, y) != parity(x, y + 1);
        return right || below ? 1 : 0;
    }

    int rings(int what) {
        if (what < 0 || what > 3) {
            return -1;
        }
        List<Spot> found = new ArrayList<>();
        for (Spot pixel : pixels()) {
            boolean is = what < 2 ? critical(pixel.x, pixel.y) == 1 : parity(pixel.x, pixel.y) == (what == 2 ? 1 : -1);
            if (is) {
                found.add(pixel);
            }
        }
        return what == 1 ? groups(found).size() : found.size();
    }

    int brightest(int what) {
        if (what < 0 || what > 2) {
            return NO;
        }
        Map<Spot, Integer> often = new LinkedHashMap<>();
        for (Spot pixel : pixels()) {
            often.merge(cellAt(pixel), 1, Integer::sum);
        }
        Map.Entry<Spot, Integer> best = null;
        for (Map.Entry<Spot, Integer> one : often.entrySet()) {
            if (best == null || one.getValue() > best.getValue()) {
                best = one;
            }
        }
        return what == 0 ? best.getValue() : what == 1 ? best.getKey().x : best.getKey().y;
    }

    long delay(int x, int y, int toX, int toY, int farX, int farY) {
        if (out(x, 24) || out(y, 24) || out(toX, 24) || out(toY, 24) || out(farX, 2000) || out(farY, 2000)) {
            return NO;
        }
        long sum = 0;
        int atX = x;
        int atY = y;
        while (atX != toX) {
            int next = atX < toX ? atX + 1 : atX - 1;
            sum += (next - atX) * (light(atX, atY, 0) + light(next, atY, 0) - 2L * farX);
            atX = next;
        }
        while (atY != toY) {
            int next = atY < toY ? atY + 1 : atY - 1;
            sum += (next - atY) * (light(atX, atY, 1) + light(atX, next, 1) - 2L * farY);
            atY = next;
        }
        return sum;
    }

    int stretch(int n) {
        if (n < 1 || n > 24) {
            return NO;
        }
        double sum = 0; // halves of whole numbers far below 2 to the 52: exact
        for (Spot pixel : pixels()) {
            if (Math.abs(pixel.x) <= n && Math.abs(pixel.y) <= n && (Math.abs(pixel.x) == n || Math.abs(pixel.y) == n)) {
                long[] c = changes(pixel.x, pixel.y);
                sum += (double) ((c[1] + c[2]) * pixel.x * pixel.y);
                sum -= 0.5 * (c[0] - c[3]) * (pixel.x * pixel.x - pixel.y * pixel.y);
            }
        }
        return (int) Math.floor(sum / 64);
    }

    int type(long v, int n) {
        if (n < 1 || n > 8) {
            return -1;
        }
        if (text.length() + n > 200) {
            return -3;
        }
        String bits = String.format("%016x", v);
        for (int i = 8 - n; i < 8; i++) {
            text.append((char) Integer.parseInt(bits.substring(2 * i, 2 * i + 2), 16));
        }
        return text.length();
    }

    int clear() {
        int had = text.length();
        text.setLength(0);
        return had;
    }

    private static final String PLACE = "(?:0|-?(?:[1-9]|[123][0-9]|40))";
    private static final String HEAVY = "(?:0|[1-9]|[1-9][0-9]|[123][0-9][0-9]|400)";
    private static final String CORED = "(?:0|[1-9]|[1-9][0-9]|[1-8][0-9][0-9]|900)";
    private static final String EDGED = "(?:0|[1-9]|[1-8][0-9]|90)";
    private static final String BOTH = PLACE + "," + PLACE + "w" + HEAVY;
    private static final Pattern TEXT = Pattern.compile(
            "(?:(?:p" + BOTH + ";)|(?:s" + BOTH + "o" + CORED + ";)|(?:c" + BOTH + "o" + CORED + "e" + EDGED + ";)){0,8}");

    /** Whether something behind it makes this a text. */
    private static boolean canGoOn(String begin) {
        Matcher matcher = TEXT.matcher(begin);
        return matcher.matches() || matcher.hitEnd();
    }

    int read() {
        String all = text.toString();
        for (int k = 0; k < all.length(); k++) {
            if (!canGoOn(all.substring(0, k + 1))) {
                return -10 - k;
            }
        }
        if (!TEXT.matcher(all).matches()) {
            return -10 - all.length();
        }
        bodies.clear();
        for (String item : all.isEmpty() ? new String[0] : all.split(";")) {
            String[] parts = item.substring(1).split("[,woe]");
            int[] body = {"psc".indexOf(item.charAt(0)), 0, 0, 0, 0, 90};
            for (int i = 0; i < parts.length; i++) {
                body[i + 1] = Integer.parseInt(parts[i]);
            }
            bodies.add(body);
        }
        text.setLength(0);
        return bodies.size();
    }

    int pair(int x, int y, int otherX, int otherY) {
        if (out(x, 30) || out(y, 30) || out(otherX, 30) || out(otherY, 30)) {
            return -1;
        }
        if (pairs.size() == 10) {
            return -3;
        }
        pairs.add(new Pair(new Spot(x, y), new Spot(otherX, otherY)));
        return pairs.size();
    }

    int wipe() {
        int had = pairs.size();
        pairs.clear();
        return had;
    }

    int tolerance(int what, int v) {
        if (what < 0 || what > 1 || v < 0 || v > (what == 0 ? 64 : 99)) {
            return -1;
        }
        int was = tolerances[what];
        tolerances[what] = v;
        return was;
    }

    private boolean badTrial(int n, int most) {
        return n < 1 || n > 3 || n > bodies.size() || most < 1 || most > 15;
    }

    private static int[] weights(int n, int most, int model) {
        int[] weights = new int[n];
        for (int i = 0; i < n; i++) {
            weights[i] = (int) (model / Math.round(Math.pow(most + 1, i)) % (most + 1));
        }
        return weights;
    }

    private List<int[]> by(int n, int most, int model) {
        List<int[]> tried = new ArrayList<>();
        int[] weights = weights(n, most, model);
        for (int i = 0; i < bodies.size(); i++) {
            int[] body = bodies.get(i).clone();
            body[3] = i < n ? weights[i] : body[3];
            tried.add(body);
        }
        return tried;
    }

    private boolean isFit(int n, int most, int model) {
        List<int[]> tried = by(n, most, model);
        for (Pair pair : pairs) {
            for (int axis = 0; axis < 2; axis++) {
                long one = light(tried, field, pair.one.x, pair.one.y, axis);
                long other = light(tried, field, pair.other.x, pair.other.y, axis);
                if (Math.abs(one - other) > tolerances[0]) {
                    return false;
                }
            }
        }
        return true;
    }

    private static int modelsOf(int n, int most) {
        return (int) Math.round(Math.pow(most + 1, n));
    }

    int fits(int n, int most, int model) {
        if (badTrial(n, most) || model < 0 || model >= modelsOf(n, most)) {
            return -1;
        }
        return isFit(n, most, model) ? 1 : 0;
    }

    private List<Integer> allFits(int n, int most) {
        List<Integer> found = new ArrayList<>();
        for (int model = 0; model < modelsOf(n, most); model++) {
            if (isFit(n, most, model)) {
                found.add(model);
            }
        }
        return found;
    }

    private String cellsBy(int n, int most, int model, List<Spot> places) {
        List<int[]> tried = by(n, most, model);
        StringBuilder cells = new StringBuilder();
        for (Spot place : places) {
            cells.append(cellOf(light(tried, field, place.x, place.y, 0))).append(' ');
            cells.append(cellOf(light(tried, field, place.x, place.y, 1))).append(' ');
        }
        return cells.toString();
    }

    int models(int n, int most, int what) {
        if (badTrial(n, most) || what < 0 || what > 3) {
            return -1;
        }
        List<Integer> found = allFits(n, most);
        switch (what) {
            case 0:
                return found.size();
            case 1:
                return found.stream().min((one, other) -> {
                    int sums = Arrays.stream(weights(n, most, one)).sum() - Arrays.stream(weights(n, most, other)).sum();
                    return sums != 0 ? sums : one - other;
                }).orElse(NONE);
            case 2:
                Set<String> heaps = new HashSet<>();
                for (int model : found) {
                    heaps.add(cellsBy(n, most, model, spots));
                }
                return heaps.size();
            default:
                return found.isEmpty() ? NONE : nextLook(n, most, found);
        }
    }

    private int nextLook(int n, int most, List<Integer> found) {
        int best = NONE;
        int least = Integer.MAX_VALUE;
        for (int i = 0; i < spots.size(); i++) {
            Map<String, Integer> often = new LinkedHashMap<>();
            for (int model : found) {
                often.merge(cellsBy(n, most, model, List.of(spots.get(i))), 1, Integer::sum);
            }
            int greatest = often.values().stream().mapToInt(v -> v).max().orElse(0);
            if (greatest < least) {
                least = greatest;
                best = i;
            }
        }
        return best;
    }

    int sure(int n, int most, int body) {
        if (badTrial(n, most) || body < 0 || body >= n) {
            return -1;
        }
        Set<Integer> seen = new HashSet<>();
        for (int model : allFits(n, most)) {
            seen.add(weights(n, most, model)[body]);
        }
        return seen.size() == 1 ? seen.iterator().next() : NONE;
    }

    int spot(int x, int y) {
        if (out(x, 30) || out(y, 30)) {
            return -1;
        }
        if (spots.size() == 8) {
            return -3;
        }
        spots.add(new Spot(x, y));
        return spots.size();
    }

    int forget() {
        int had = spots.size();
        spots.clear();
        return had;
    }

    int bright(int x, int y, int v) {
        if (out(x, 24) || out(y, 24) || v != NONE && (v < 0 || v > 99)) {
            return -2;
        }
        Integer was = v == NONE ? told.remove(new Spot(x, y)) : told.put(new Spot(x, y), v);
        return was == null ? NONE : was;
    }

    private Map<Spot, TreeSet<Long>> toldByCell() {
        Map<Spot, TreeSet<Long>> byCell = new LinkedHashMap<>();
        told.forEach((pixel, v) ->
                byCell.computeIfAbsent(cellAt(pixel), cell -> new TreeSet<>()).add(v * 1000000L + pixel.x * 1000 + pixel.y));
        return byCell;
    }

    private static long brightnessIn(long entry) {
        return Math.floorDiv(entry + 500000, 1000000L);
    }

    private int farOf(Spot cell) {
        TreeSet<Long> entries = toldByCell().get(cell);
        if (entries == null) {
            return NONE;
        }
        return (int) Math.floor(entries.stream().mapToLong(SlowBench::brightnessIn).sum() / (double) entries.size());
    }

    int far(int x, int y) {
        return out(x, 99) || out(y, 99) ? -1 : farOf(new Spot(x, y));
    }

    int contradicts() {
        int found = 0;
        for (TreeSet<Long> entries : toldByCell().values()) {
            found += brightnessIn(entries.last()) - brightnessIn(entries.first()) > tolerances[1] ? 1 : 0;
        }
        return found;
    }

    int filled(int x, int y) {
        if (out(x, 24) || out(y, 24)) {
            return -1;
        }
        Integer own = told.get(new Spot(x, y));
        return own != null ? own : farOf(cellAt(new Spot(x, y)));
    }

    int count(int what) {
        return switch (what) {
            case 0 -> bodies.size();
            case 1 -> pairs.size();
            case 2 -> spots.size();
            case 3 -> told.size();
            case 4 -> text.length();
            case 5 -> bodies.stream().mapToInt(body -> body[3]).sum();
            default -> -1;
        };
    }

    long trace() {
        return trace;
    }
}

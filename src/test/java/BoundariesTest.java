/** Each sentence of ../shared/DOC.md that names a boundary case has a test of its own, named after its promise. */
public final class BoundariesTest {
    private BoundariesTest() {
    }

    public static void main(String[] args) throws ReflectiveOperationException {
        Checks checks = new Checks();
        int[] ofPromise = new int[34];
        Boundaries[] all = {new BodiesBoundaries(checks), new PicturesBoundaries(checks), new TextsBoundaries(checks),
            new WeightsBoundaries(checks), new BrightnessBoundaries(checks)};
        for (Boundaries some : all) {
            some.runAll(ofPromise);
        }
        checks.begin("all");
        for (int promise = 1; promise <= 33; promise++) {
            checks.dueTrue("promise " + promise + " has boundary tests", ofPromise[promise] > 0);
        }
        checks.end();
    }
}

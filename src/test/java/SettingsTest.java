/** Promises 1, 4, 5, 6 and 8: a new object, the settings, and marks. */
public final class SettingsTest {
    private static final Check CHECK = new Check("SettingsTest");

    public static void main(String[] args) {
        newObject();
        pull();
        share();
        solver();
        backToTheBeginning();
        backToAMark();
        whatBackLeaves();
        CHECK.end();
    }

    private static void newObject() {
        WaterBox box = new WaterBox();
        for (int what = 0; what < 4; what++) {
            CHECK.same("new count(" + what + ")", box.count(what), 0);
        }
        CHECK.same("new rest", box.rest(), 0);
        CHECK.same("new energy", box.energy(), 0);
        CHECK.same("new drift", box.drift(0), 0);
        CHECK.noSuch("new particle", () -> box.particle(0, 0));
        for (int j = 0; j < 6; j++) {
            for (int i = 0; i < 6; i++) {
                CHECK.same("new pressure", box.pressure(i, j), 0);
                CHECK.same("new u", box.face(0, i, j), 0);
                CHECK.same("new v", box.face(1, i, j), 0);
                CHECK.same("new solid", box.solid(i, j, false), false);
            }
        }
    }

    private static void pull() {
        WaterBox box = new WaterBox();
        CHECK.same("pull at first", box.pull(4), -1);
        CHECK.same("pull was 4", box.pull(-4), 4);
        double[] bad = {Math.nextUp(4.0), Math.nextDown(-4.0), 1e300,
            Double.NaN, Double.POSITIVE_INFINITY, Double.NEGATIVE_INFINITY};
        for (double g : bad) {
            CHECK.badArgument("pull(" + g + ")", () -> box.pull(g));
        }
        CHECK.same("pull is kept", box.pull(0), -4);
        CHECK.same("pull was 0", box.pull(0.3), 0);
        CHECK.same("pull is a double", box.pull(0.3), 0.3);
    }

    private static void share() {
        WaterBox box = new WaterBox();
        CHECK.same("share at first", box.share(0), 0.5);
        CHECK.same("share was 0", box.share(1), 0);
        float[] bad = {Math.nextUp(1.0f), -Float.MIN_VALUE, -1, 2,
            Float.NaN, Float.POSITIVE_INFINITY, Float.NEGATIVE_INFINITY};
        for (float f : bad) {
            CHECK.badArgument("share(" + f + ")", () -> box.share(f));
        }
        CHECK.same("share is kept", box.share(0.1f), 1);
        CHECK.same("share was 0.1f", box.share(0.1f), 0.1f);
    }

    private static void solver() {
        WaterBox box = new WaterBox();
        double due = 1;
        for (int k = 0; k <= 30; k++) {
            CHECK.same("solver(" + k + ", 40)", box.solver(k, 40), due);
            due = due / 2;
        }
        CHECK.same("solver(0, 0)", box.solver(0, 0), 1);
        int[][] bad = {{-1, 5}, {31, 5}, {32, 5}, {5, -1}, {5, 41}, {31, 41},
            {Integer.MIN_VALUE, 1}, {Integer.MAX_VALUE, 1}, {1, Integer.MIN_VALUE}, {1, Integer.MAX_VALUE}};
        for (int[] pair : bad) {
            CHECK.badArgument("solver(" + pair[0] + ", " + pair[1] + ")", () -> box.solver(pair[0], pair[1]));
        }
        refusedSolverChangesNothing();
        limitAtFirst();
        roundsAtFirst();
    }

    /** The particle stands on the floor: its right side is t, as pull is -1. */
    private static WaterBox onTheFloor() {
        WaterBox box = new WaterBox();
        box.add(2.5f, 0.5f, 0, 0);
        return box;
    }

    private static void refusedSolverChangesNothing() {
        WaterBox box = onTheFloor();
        box.solver(1, 0);
        CHECK.badArgument("solver(0, 41)", () -> box.solver(0, 41));
        CHECK.badArgument("solver(31, 40)", () -> box.solver(31, 40));
        CHECK.badState("limit and rounds are kept", () -> box.step(0.75));
    }

    private static void limitAtFirst() {
        CHECK.same("at the first limit", onTheFloor().step(0.125), 0);
        CHECK.same("above the first limit", onTheFloor().step(Math.nextUp(0.125)), 1);
    }

    /** No box seems to need 20 rounds, so that the number is 20 shows here only as 'enough'; InsideTest looks at it. */
    private static void roundsAtFirst() {
        WaterBox box = new WaterBox();
        for (int k = 0; k < 24; k++) {
            box.add(k % 6 + 0.5f, k / 6 + 0.5f, k % 5 - 2, k % 7 - 3);
        }
        CHECK.same("enough rounds at first", box.step(1) > 1, true);
    }

    private static void backToTheBeginning() {
        WaterBox box = new WaterBox();
        box.pull(2);
        box.share(0.25f);
        box.solver(3, 0);
        box.solid(4, 4, true);
        box.add(2.5f, 0.5f, 1, 2);
        CHECK.same("back(false)", box.back(false), true);
        CHECK.same("particles", box.count(0), 0);
        CHECK.noSuch("particle 0 is gone", () -> box.particle(0, 0));
        CHECK.same("solid", box.solid(4, 4, false), false);
        CHECK.same("pull", box.pull(-1), -1);
        CHECK.same("share", box.share(0.5f), 0.5);
        CHECK.same("number", box.add(2.5f, 0.5f, 0, 0), 0);
        CHECK.same("rounds and limit", box.step(0.5), 1);
    }

    private static void backToAMark() {
        WaterBox box = new WaterBox();
        box.pull(2);
        box.share(0.25f);
        box.solver(0, 0);
        box.solid(4, 4, true);
        box.add(2.5f, 2.5f, 1, 2);
        CHECK.same("back(true)", box.back(true), false);
        for (int turn = 0; turn < 2; turn++) {
            box.solver(30, 40);
            box.step(0.5);
            box.pull(-3);
            box.share(1);
            box.solid(4, 4, false);
            box.solid(0, 0, true);
            box.add(4.5f, 4.5f, 0, 0);
            CHECK.same("back(false)", box.back(false), true);
            CHECK.same("particles", box.count(0), 1);
            float[] due = {2.5f, 2.5f, 1, 2};
            for (int what = 0; what < 4; what++) {
                CHECK.same("particle(0, " + what + ")", box.particle(0, what), due[what]);
            }
            CHECK.same("pull", box.pull(2), 2);
            CHECK.same("share", box.share(0.25f), 0.25);
            CHECK.same("solid(4, 4)", box.solid(4, 4, true), true);
            CHECK.same("solid(0, 0)", box.solid(0, 0, false), false);
        }
        box.back(false);
        box.add(2.5f, 0.5f, 0, 8);
        CHECK.badState("limit 1 and no rounds", () -> box.step(1));
        box.back(true);
        box.back(false);
        CHECK.same("a later mark holds", box.count(0), 2);
    }

    private static void whatBackLeaves() {
        WaterBox box = onTheFloor();
        box.step(0.5);
        box.solver(30, 0);
        CHECK.badState("no rounds", () -> box.step(0.5));
        double pressure = box.pressure(2, 0);
        double face = box.face(1, 2, 1);
        box.back(false);
        CHECK.same("steps done", box.count(2), 1);
        CHECK.same("steps failed", box.count(3), 1);
        CHECK.same("there was a pressure", pressure > 0, true);
        CHECK.same("pressure", box.pressure(2, 0), pressure);
        CHECK.same("face", box.face(1, 2, 1), face);
    }
}

/** The ends of each range that the document gives: the last value that is right, beside what RefusedTest refuses. */
public final class RangesTest {
    private static final Check CHECK = new Check("RangesTest");
    private static final float LEAST = 0.0625f;
    private static final float MOST = 5.9375f;

    public static void main(String[] args) {
        places();
        velocities();
        pull();
        share();
        limit();
        rounds();
        time();
        cells();
        faces();
        counts();
        axes();
        CHECK.end();
    }

    private static void places() {
        CHECK.about("3: x and y from 0.0625 to 5.9375, the ends too");
        WaterBox box = new WaterBox();
        float[][] ends = {{LEAST, LEAST}, {LEAST, MOST}, {MOST, LEAST}, {MOST, MOST}, {LEAST, 3}, {3, LEAST},
            {MOST, 3}, {3, MOST}, {Math.nextUp(LEAST), Math.nextDown(MOST)}, {Math.nextDown(MOST), Math.nextUp(LEAST)}};
        for (int k = 0; k < ends.length; k++) {
            CHECK.same("number", box.add(ends[k][0], ends[k][1], 0, 0), k);
            CHECK.same("x", box.particle(k, 0), ends[k][0]);
            CHECK.same("y", box.particle(k, 1), ends[k][1]);
        }
    }

    private static void velocities() {
        CHECK.about("3: a and b from -8 to 8, the ends too");
        WaterBox box = new WaterBox();
        float[][] ends = {{-8, -8}, {-8, 8}, {8, -8}, {8, 8}, {-8, 0}, {0, -8}, {8, 0}, {0, 8},
            {Math.nextUp(-8f), Math.nextDown(8f)}, {Math.nextDown(8f), Math.nextUp(-8f)}};
        for (int k = 0; k < ends.length; k++) {
            CHECK.same("number", box.add(3, 3, ends[k][0], ends[k][1]), k);
            CHECK.same("a", box.particle(k, 2), ends[k][0]);
            CHECK.same("b", box.particle(k, 3), ends[k][1]);
        }
    }

    private static void pull() {
        CHECK.about("4: the pull from -4 to 4, the ends too: what it was");
        WaterBox box = new WaterBox();
        double before = -1;
        for (double g : new double[] {-4, Math.nextUp(-4.0), -0.1, 0, Double.MIN_VALUE, Math.nextDown(4.0), 4, 4, -4}) {
            CHECK.same("pull(" + g + ")", box.pull(g), before);
            before = g;
        }
        box.step(1);
        CHECK.same("a step takes it", box.face(1, 0, 1), -4);
        box.pull(4);
        box.step(1);
        CHECK.same("a step takes it", box.face(1, 0, 1), 4);
    }

    private static void share() {
        CHECK.about("5: the share from 0 to 1, the ends too: what it was");
        WaterBox box = new WaterBox();
        float before = 0.5f;
        for (float f : new float[] {0, Float.MIN_VALUE, 0.1f, Math.nextDown(1f), 1, 1, 0}) {
            CHECK.same("share(" + f + ")", box.share(f), before);
            before = f;
        }
    }

    private static void limit() {
        CHECK.about("6: the limit is 1 / 2^k, k from 0 to 30; answers the limit");
        double due = 1;
        for (int k = 0; k <= 30; k++) {
            WaterBox box = Boxes.onTheFloor();
            CHECK.same("solver(" + k + ", 0)", box.solver(k, 0), due);
            if (k > 0) {
                double above = Math.nextUp(due);
                CHECK.badState("a right side above it, k = " + k, () -> box.step(above));
            }
            CHECK.same("a right side at it, k = " + k, box.step(due), 0);
            CHECK.same("rest, k = " + k, box.rest(), due);
            due = due / 2;
        }
        CHECK.about("6: k = 0 is a limit of 1");
        WaterBox box = Boxes.onTheFloor();
        box.solver(0, 0);
        box.pull(Math.nextDown(-1.0));
        CHECK.badState("a right side above 1", () -> box.step(1));
        box.pull(-1);
        CHECK.same("a right side of 1", box.step(1), 0);
    }

    private static void rounds() {
        CHECK.about("6: the rounds from 0 to 40, the ends too");
        WaterBox box = Boxes.onTheFloor();
        CHECK.same("solver(30, 0)", box.solver(30, 0), 1.0 / (1 << 30));
        CHECK.badState("no rounds", () -> box.step(1));
        CHECK.same("solver(30, 1)", box.solver(30, 1), 1.0 / (1 << 30));
        CHECK.same("one round", box.step(1), 1);
        CHECK.same("solver(0, 39)", box.solver(0, 39), 1);
        CHECK.same("solver(0, 40)", box.solver(0, 40), 1);

        CHECK.about("6: all rounds that are set are there");
        for (int rounds = 0; rounds <= 40; rounds++) {
            WaterBox hard = new WaterBox();
            Boxes.longAtFinest(hard);
            hard.solver(30, rounds);
            if (rounds < 19) {
                CHECK.badState(rounds + " rounds are too few", () -> hard.step(1));
            } else {
                CHECK.same(rounds + " rounds are enough", hard.step(1), 19);
            }
        }
    }

    private static void time() {
        CHECK.about("7: t above 0 and at most 1");
        for (double t : new double[] {Double.MIN_VALUE, 1e-300, 0.5, Math.nextDown(1.0), 1}) {
            WaterBox box = new WaterBox();
            CHECK.same("step(" + t + ")", box.step(t), 0);
            CHECK.same("done", box.count(2), 1);
            CHECK.same("v(2, 3)", box.face(1, 2, 3), -t);
        }
        CHECK.about("7: a very short step does not move, and takes velocities from the grid all the same");
        WaterBox box = Boxes.withoutPressure();
        box.share(0);
        box.add(2.5f, 2.5f, 2, 0);
        box.add(2.5f, 2.5f, 1, 0);
        box.step(Double.MIN_VALUE);
        CHECK.same("x", box.particle(0, 0), 2.5);
        CHECK.same("a of 0", box.particle(0, 2), 1.5);
        CHECK.same("a of 1", box.particle(1, 2), 1.5);
    }

    private static void cells() {
        CHECK.about("Terms: cells (i, j), i and j from 0 to 5");
        WaterBox box = new WaterBox();
        for (int j = 0; j <= 5; j++) {
            for (int i = 0; i <= 5; i++) {
                CHECK.same("pressure(" + i + ", " + j + ")", box.pressure(i, j), 0);
                CHECK.same("solid(" + i + ", " + j + ", true)", box.solid(i, j, true), false);
            }
        }
        for (int j = 0; j <= 5; j++) {
            for (int i = 0; i <= 5; i++) {
                CHECK.same("solid(" + i + ", " + j + ", false)", box.solid(i, j, false), true);
            }
        }
        CHECK.same("none is solid now", Told.solids(box), " solid");
    }

    private static void faces() {
        CHECK.about("Terms: u(i, j), i from 0 to 6; v(i, j), j from 0 to 6");
        WaterBox box = new WaterBox();
        box.step(0.5);
        for (int n = 0; n <= 5; n++) {
            for (int m = 0; m <= 6; m++) {
                CHECK.same("u(" + m + ", " + n + ")", box.face(0, m, n), 0);
                CHECK.same("v(" + n + ", " + m + ")", box.face(1, n, m), m == 0 || m == 6 ? 0 : -0.5);
            }
        }
    }

    private static void counts() {
        CHECK.about("15: NONE for another one");
        WaterBox box = Boxes.lived();
        CHECK.same("count(-1)", box.count(-1), -1);
        CHECK.same("count(4)", box.count(4), -1);
        CHECK.same("count(MAX)", box.count(Integer.MAX_VALUE), -1);
        CHECK.same("count(MIN)", box.count(Integer.MIN_VALUE), -1);
        CHECK.about("15: from 0 to 3");
        CHECK.same("count(0)", box.count(0), 4);
        CHECK.same("count(1)", box.count(1), 4);
        CHECK.same("count(2)", box.count(2), 1);
        CHECK.same("count(3)", box.count(3), 1);
    }

    private static void axes() {
        CHECK.about("14: a (axis 0) or b (any other axis)");
        WaterBox box = new WaterBox();
        box.add(1, 1, 3, -5);
        CHECK.same("drift(0)", box.drift(0), 3);
        for (int axis : new int[] {1, -1, 2, 3, 1 << 30, Integer.MAX_VALUE, Integer.MIN_VALUE}) {
            CHECK.same("drift(" + axis + ")", box.drift(axis), -5);
        }
    }
}

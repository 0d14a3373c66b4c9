/** Refused calls of promises 2 to 7 and 9 to 11: which exception, which comes first, and that nothing is changed. */
public final class RefusedTest {
    private static final Check CHECK = new Check("RefusedTest");
    private static final int[] NO_CELL = {-1, 6, -6, 7, 12, 36, 1 << 30, Integer.MAX_VALUE, Integer.MIN_VALUE};
    private static final float[] NO_PLACE = {Math.nextDown(0.0625f), Math.nextUp(5.9375f), 0, -0.0f, 6, -1,
        1e30f, -1e30f, Float.NaN, Float.POSITIVE_INFINITY, Float.NEGATIVE_INFINITY};
    private static final float[] NO_SPEED = {Math.nextUp(8f), Math.nextDown(-8f), 9, -9, 1e30f, -1e30f,
        Float.NaN, Float.POSITIVE_INFINITY, Float.NEGATIVE_INFINITY};

    public static void main(String[] args) {
        solidNoSuchCell();
        solidWithAParticle();
        addWrongPlace();
        addWrongVelocity();
        addInASolidCell();
        addTo24();
        addWrongAndTo24();
        pull();
        share();
        solver();
        refusedSolverKeepsTheLimit();
        refusedSolverKeepsTheRounds();
        stepOfAWrongTime();
        wrongTimeComesBeforeFailing();
        particle();
        pressure();
        face();
        CHECK.end();
    }

    /** The box that was refused something must tell and do the same as one that was not. */
    private static void unchanged(WaterBox refused, WaterBox twin) {
        CHECK.same("all that it tells", Told.of(refused), Told.of(twin));
        CHECK.same("mark as it was", refused.back(false), twin.back(false));
        CHECK.same("particles at the mark", Told.particles(refused), Told.particles(twin));
        CHECK.same("rounds of the next step", refused.step(0.5), twin.step(0.5));
        CHECK.same("particles after it", Told.particles(refused), Told.particles(twin));
    }

    private static void solidNoSuchCell() {
        CHECK.about("2: IndexOutOfBoundsException, when there is no such cell");
        WaterBox box = Boxes.lived();
        for (int none : NO_CELL) {
            for (int other : new int[] {0, 5, none}) {
                CHECK.noSuch("solid(" + none + ", " + other + ", true)", () -> box.solid(none, other, true));
                CHECK.noSuch("solid(" + other + ", " + none + ", true)", () -> box.solid(other, none, true));
            }
            CHECK.noSuch("solid(" + none + ", 2, false)", () -> box.solid(none, 2, false));
            CHECK.noSuch("solid(2, " + none + ", false)", () -> box.solid(2, none, false));
        }
        unchanged(box, Boxes.lived());

        CHECK.about("2: no such cell, although a row's end or the next row's begin has a particle");
        WaterBox rim = new WaterBox();
        rim.add(0.5f, 1.5f, 0, 0);
        rim.add(5.5f, 0.5f, 0, 0);
        rim.add(5.5f, 5.5f, 0, 0);
        CHECK.noSuch("solid(6, 0, true)", () -> rim.solid(6, 0, true));
        CHECK.noSuch("solid(-1, 1, true)", () -> rim.solid(-1, 1, true));
        CHECK.noSuch("solid(6, 5, true)", () -> rim.solid(6, 5, true));
        CHECK.noSuch("solid(5, 6, true)", () -> rim.solid(5, 6, true));
    }

    private static void solidWithAParticle() {
        CHECK.about("2: IllegalStateException, when it is to be solid and a particle is in it");
        WaterBox box = Boxes.lived();
        int[][] wet = {{2, 0}, {3, 0}, {2, 1}, {3, 1}};
        for (int[] cell : wet) {
            CHECK.badState("solid(" + cell[0] + ", " + cell[1] + ", true)", () -> box.solid(cell[0], cell[1], true));
        }
        unchanged(box, Boxes.lived());

        CHECK.about("2: not to be solid, with a particle in it, is no wrong state");
        WaterBox one = new WaterBox();
        one.add(4, 3, 0, 0);
        CHECK.same("solid(4, 3, false)", one.solid(4, 3, false), false);

        CHECK.about("2: any particle counts, the last of 24 too");
        WaterBox full = Boxes.full();
        CHECK.badState("cell of particle 23", () -> full.solid(5, 3, true));
        CHECK.same("cell above it", full.solid(5, 4, true), false);
    }

    private static void addWrongPlace() {
        CHECK.about("3: IllegalArgumentException, when x or y is not 0.0625 .. 5.9375");
        WaterBox box = Boxes.lived();
        for (float none : NO_PLACE) {
            CHECK.badArgument("x " + none, () -> box.add(none, 2.5f, 0, 0));
            CHECK.badArgument("y " + none, () -> box.add(2.5f, none, 0, 0));
            CHECK.badArgument("both " + none, () -> box.add(none, none, 0, 0));
        }
        unchanged(box, Boxes.lived());
    }

    private static void addWrongVelocity() {
        CHECK.about("3: IllegalArgumentException, when a or b is not -8 .. 8");
        WaterBox box = Boxes.lived();
        for (float none : NO_SPEED) {
            CHECK.badArgument("a " + none, () -> box.add(2.5f, 2.5f, none, 0));
            CHECK.badArgument("b " + none, () -> box.add(2.5f, 2.5f, 0, none));
            CHECK.badArgument("both " + none, () -> box.add(2.5f, 2.5f, none, none));
        }
        unchanged(box, Boxes.lived());
    }

    private static void addInASolidCell() {
        CHECK.about("3: IllegalArgumentException, when the cell is solid");
        WaterBox box = Boxes.lived();
        float end = Math.nextDown(5f);
        CHECK.badArgument("least place of (4, 0)", () -> box.add(4, 0.0625f, 0, 0));
        CHECK.badArgument("greatest place of (4, 0)", () -> box.add(end, Math.nextDown(1f), 0, 0));
        CHECK.badArgument("least place of (0, 3)", () -> box.add(0.0625f, 3, 0, 0));
        CHECK.badArgument("greatest place of (0, 3)", () -> box.add(Math.nextDown(1f), Math.nextDown(4f), 0, 0));
        unchanged(box, Boxes.lived());

        CHECK.about("3: cells round a solid one are not solid");
        WaterBox round = new WaterBox();
        round.solid(4, 2, true);
        CHECK.same("left", round.add(Math.nextDown(4f), 2.5f, 0, 0), 0);
        CHECK.same("right", round.add(5, 2.5f, 0, 0), 1);
        CHECK.same("lower", round.add(4.5f, Math.nextDown(2f), 0, 0), 2);
        CHECK.same("upper", round.add(4.5f, 3, 0, 0), 3);
        CHECK.same("of turned numbers", round.add(2.5f, 4.5f, 0, 0), 4);
    }

    private static void addTo24() {
        CHECK.about("3: else IllegalStateException, when there are 24");
        WaterBox box = Boxes.full();
        CHECK.badState("into a cell with one", () -> box.add(2.5f, 2.5f, 0, 0));
        CHECK.badState("into a cell with none", () -> box.add(5.9375f, 5.9375f, 8, -8));
        WaterBox twin = Boxes.full();
        CHECK.same("all that it tells", Told.of(box), Told.of(twin));
        CHECK.same("rounds of the next step", box.step(0.5), twin.step(0.5));

        CHECK.about("3: 23 are not 24");
        WaterBox less = new WaterBox();
        for (int k = 0; k < 23; k++) {
            less.add(1, 1, 0, 0);
        }
        CHECK.same("the last number", less.add(1, 1, 0, 0), 23);
        CHECK.badState("one more", () -> less.add(1, 1, 0, 0));
    }

    private static void addWrongAndTo24() {
        CHECK.about("3: a wrong argument comes before 24 particles");
        WaterBox box = Boxes.full();
        box.solid(5, 5, true);
        for (float none : NO_PLACE) {
            CHECK.badArgument("x " + none, () -> box.add(none, 2.5f, 0, 0));
            CHECK.badArgument("y " + none, () -> box.add(2.5f, none, 0, 0));
        }
        for (float none : NO_SPEED) {
            CHECK.badArgument("a " + none, () -> box.add(2.5f, 2.5f, none, 0));
            CHECK.badArgument("b " + none, () -> box.add(2.5f, 2.5f, 0, none));
        }
        CHECK.badArgument("solid cell", () -> box.add(5.5f, 5.5f, 0, 0));
        CHECK.badState("all is right", () -> box.add(4.5f, 5.5f, 0, 0));
        CHECK.same("still 24", box.count(0), 24);
    }

    private static void pull() {
        CHECK.about("4: IllegalArgumentException, when it is none of -4 .. 4");
        WaterBox box = Boxes.lived();
        double[] none = {Math.nextUp(4.0), Math.nextDown(-4.0), 5, -5, Double.MAX_VALUE, -Double.MAX_VALUE,
            Double.NaN, Double.POSITIVE_INFINITY, Double.NEGATIVE_INFINITY};
        for (double g : none) {
            CHECK.badArgument("pull(" + g + ")", () -> box.pull(g));
        }
        CHECK.same("pull is what it was", box.pull(-2), -2);
        unchanged(box, Boxes.lived());
    }

    private static void share() {
        CHECK.about("5: IllegalArgumentException, when it is none of 0 .. 1");
        WaterBox box = Boxes.lived();
        float[] none = {Math.nextUp(1f), -Float.MIN_VALUE, 2, -1, Float.MAX_VALUE, -Float.MAX_VALUE,
            Float.NaN, Float.POSITIVE_INFINITY, Float.NEGATIVE_INFINITY};
        for (float f : none) {
            CHECK.badArgument("share(" + f + ")", () -> box.share(f));
        }
        CHECK.same("share is what it was", box.share(0.75f), 0.75);
        unchanged(box, Boxes.lived());
    }

    private static final int[][] NO_SOLVER = {{-1, 0}, {-1, 40}, {31, 0}, {31, 40}, {32, 20}, {62, 20}, {64, 20},
        {Integer.MIN_VALUE, 20}, {Integer.MAX_VALUE, 20}, {0, -1}, {30, -1}, {0, 41}, {30, 41},
        {10, Integer.MIN_VALUE}, {10, Integer.MAX_VALUE}, {-1, -1}, {31, 41}, {-1, 41}, {31, -1}};

    private static void refuseSolvers(WaterBox box) {
        for (int[] pair : NO_SOLVER) {
            CHECK.badArgument("solver(" + pair[0] + ", " + pair[1] + ")", () -> box.solver(pair[0], pair[1]));
        }
    }

    private static void solver() {
        CHECK.about("6: IllegalArgumentException, when k or the rounds are none of these");
        WaterBox box = Boxes.lived();
        refuseSolvers(box);
        unchanged(box, Boxes.lived());
    }

    private static void refusedSolverKeepsTheLimit() {
        CHECK.about("6: a refused solver leaves the limit");
        WaterBox box = Boxes.onTheFloor();
        box.solver(4, 0);
        refuseSolvers(box);
        CHECK.badState("limit is not greater", () -> box.step(Math.nextUp(0.0625)));
        CHECK.same("limit is not less", box.step(0.0625), 0);
        for (int[] pair : NO_SOLVER) {
            WaterBox first = Boxes.onTheFloor();
            CHECK.badArgument("solver", () -> first.solver(pair[0], pair[1]));
            first.back(true);
            CHECK.same("limit at first is not less", first.step(0.125), 0);
            first.back(false);
            CHECK.same("limit at first is not greater", first.step(Math.nextUp(0.125)), 1);
        }
    }

    private static void refusedSolverKeepsTheRounds() {
        CHECK.about("6: a refused solver leaves the rounds");
        for (int[] pair : NO_SOLVER) {
            WaterBox box = new WaterBox();
            Boxes.longAtFinest(box);
            box.solver(30, 18);
            CHECK.badArgument("solver", () -> box.solver(pair[0], pair[1]));
            CHECK.badState("rounds are not more", () -> box.step(1));
            box.solver(30, 19);
            CHECK.badArgument("solver", () -> box.solver(pair[0], pair[1]));
            CHECK.same("rounds are not less", box.step(1), 19);
        }
    }

    private static final double[] NO_TIME = {0, -0.0, -Double.MIN_VALUE, -0.5, -1, Math.nextUp(1.0), 2,
        Double.MAX_VALUE, Double.NaN, Double.POSITIVE_INFINITY, Double.NEGATIVE_INFINITY};

    private static void stepOfAWrongTime() {
        CHECK.about("7: IllegalArgumentException, when t is not above 0 or is above 1");
        WaterBox box = Boxes.lived();
        for (double t : NO_TIME) {
            CHECK.badArgument("step(" + t + ")", () -> box.step(t));
        }
        unchanged(box, Boxes.lived());
    }

    private static void wrongTimeComesBeforeFailing() {
        CHECK.about("7: a wrong t is refused where the step would fail, and none fails by it");
        WaterBox box = new WaterBox();
        Boxes.longAtFinest(box);
        box.solver(30, 0);
        for (double t : NO_TIME) {
            CHECK.badArgument("step(" + t + ")", () -> box.step(t));
        }
        CHECK.same("none failed", box.count(3), 0);
        CHECK.badState("step(1)", () -> box.step(1));
        CHECK.same("one failed", box.count(3), 1);
    }

    private static void particle() {
        CHECK.about("9: IndexOutOfBoundsException, when there is no such particle or number");
        WaterBox box = Boxes.lived();
        for (int none : new int[] {-1, 4, 5, 23, 24, 1 << 30, Integer.MAX_VALUE, Integer.MIN_VALUE}) {
            for (int other : new int[] {0, 3, none}) {
                CHECK.noSuch("particle(" + none + ", " + other + ")", () -> box.particle(none, other));
                CHECK.noSuch("particle(" + other + ", " + none + ")", () -> box.particle(other, none));
            }
        }
        unchanged(box, Boxes.lived());

        CHECK.about("9: the numbers run from 0 to the last particle's");
        WaterBox full = Boxes.full();
        CHECK.same("particle(0, 0)", full.particle(0, 0), 0.5);
        CHECK.same("particle(23, 3)", full.particle(23, 3), -1);
        CHECK.noSuch("particle(24, 0)", () -> full.particle(24, 0));
        full.back(false);
        CHECK.noSuch("particle(0, 0) of none", () -> full.particle(0, 0));
    }

    private static void pressure() {
        CHECK.about("10: IndexOutOfBoundsException, when there is no such cell");
        WaterBox box = Boxes.lived();
        for (int none : NO_CELL) {
            for (int other : new int[] {0, 5, none}) {
                CHECK.noSuch("pressure(" + none + ", " + other + ")", () -> box.pressure(none, other));
                CHECK.noSuch("pressure(" + other + ", " + none + ")", () -> box.pressure(other, none));
            }
        }
        unchanged(box, Boxes.lived());
    }

    private static void face() {
        CHECK.about("11: IndexOutOfBoundsException, when there is no such face");
        WaterBox box = Boxes.lived();
        int[][] none = {{0, 7, 0}, {0, 7, 5}, {0, -1, 0}, {0, -1, 5}, {0, 0, 6}, {0, 6, 6}, {0, 0, -1}, {0, 6, -1},
            {1, 6, 0}, {1, 6, 6}, {1, -1, 0}, {1, -1, 6}, {1, 0, 7}, {1, 5, 7}, {1, 0, -1}, {1, 5, -1},
            {-1, 0, 0}, {2, 0, 0}, {3, 5, 5}, {Integer.MAX_VALUE, 0, 0}, {Integer.MIN_VALUE, 0, 0},
            {0, Integer.MAX_VALUE, 0}, {0, Integer.MIN_VALUE, 0}, {0, 0, Integer.MAX_VALUE}, {0, 0, Integer.MIN_VALUE},
            {1, Integer.MAX_VALUE, 0}, {1, Integer.MIN_VALUE, 0}, {1, 0, Integer.MAX_VALUE}, {1, 0, Integer.MIN_VALUE},
            {0, 1 << 30, 1 << 30}, {1, 1 << 30, 1 << 30}, {2, 7, 7}};
        for (int[] f : none) {
            CHECK.noSuch("face(" + f[0] + ", " + f[1] + ", " + f[2] + ")", () -> box.face(f[0], f[1], f[2]));
        }
        unchanged(box, Boxes.lived());
    }
}

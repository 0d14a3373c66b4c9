/** A box without particles and one with 24, before any step, and after the greatest number of calls. */
public final class EmptyAndFullTest {
    private static final Check CHECK = new Check("EmptyAndFullTest");

    public static void main(String[] args) {
        newObject();
        newObjectHasNoSolidCells();
        beforeAnyStep();
        beforeAnyStepThatWasDone();
        energyOfNone();
        driftOfNone();
        fluidCells();
        stepOfNone();
        stepOfNoneAfterOneWithPressure();
        stepOf24();
        energyInDoubles();
        driftInFloats();
        objectsAreApart();
        all512Calls();
        CHECK.end();
    }

    private static void newObject() {
        CHECK.about("Promise 1: no particles");
        WaterBox box = new WaterBox();
        CHECK.same("count(0)", box.count(0), 0);
        CHECK.same("count(1)", box.count(1), 0);
        for (int what = 0; what < 4; what++) {
            int part = what;
            CHECK.noSuch("particle(0, " + what + ")", () -> box.particle(0, part));
        }
        CHECK.same("the first number", box.add(1, 1, 0, 0), 0);
    }

    private static void newObjectHasNoSolidCells() {
        CHECK.about("Promise 1: no solid cells");
        CHECK.same("solid cells", Told.solids(new WaterBox()), " solid");
        WaterBox box = new WaterBox();
        for (int k = 0; k < 24; k++) {
            CHECK.same("number", box.add(k % 6 + 0.5f, k / 6 + 0.5f, 0, 0), k);
        }
        WaterBox high = new WaterBox();
        for (int k = 0; k < 24; k++) {
            CHECK.same("number", high.add(k % 6 + 0.5f, 5.5f - k / 6, 0, 0), k);
        }
    }

    private static void checkNoStep(WaterBox box) {
        CHECK.about("10: the pressure is 0 when there was no step that was done");
        for (int cell = 0; cell < 36; cell++) {
            CHECK.same("pressure of cell " + cell, box.pressure(cell % 6, cell / 6), 0);
        }
        CHECK.about("11: a face is 0 when there was no step that was done");
        for (int place = 0; place < 42; place++) {
            CHECK.same("u at " + place, box.face(0, place / 6, place % 6), 0);
            CHECK.same("v at " + place, box.face(1, place % 6, place / 6), 0);
        }
        CHECK.about("12: the rest is 0 when there was no step that was done");
        CHECK.same("rest()", box.rest(), 0);
        CHECK.about("15: how many steps were done, when none was");
        CHECK.same("count(2)", box.count(2), 0);
    }

    private static void beforeAnyStep() {
        checkNoStep(new WaterBox());
        WaterBox full = Boxes.full();
        checkNoStep(full);
        CHECK.same("count(3)", full.count(3), 0);
    }

    private static void beforeAnyStepThatWasDone() {
        WaterBox box = Boxes.full();
        box.solver(30, 1);
        CHECK.badState("step(1)", () -> box.step(1));
        CHECK.badArgument("step(2)", () -> box.step(2));
        checkNoStep(box);
        CHECK.about("15: how many steps failed");
        CHECK.same("count(3)", box.count(3), 1);
    }

    private static void energyOfNone() {
        CHECK.about("13: the sum begins with 0");
        WaterBox box = new WaterBox();
        CHECK.same("energy of none", box.energy(), 0);
        box.add(1, 1, 0, 0);
        CHECK.same("energy of one at rest", box.energy(), 0);
        box.add(1, 1, 3, -4);
        CHECK.same("energy of two", box.energy(), 12.5);
        box.back(false);
        CHECK.same("energy of none again", box.energy(), 0);
    }

    private static void driftOfNone() {
        CHECK.about("14: 0 when there are none");
        WaterBox box = new WaterBox();
        for (int axis : new int[] {0, 1, 2, -1}) {
            CHECK.same("drift(" + axis + ")", box.drift(axis), 0);
        }
        box.add(1, 1, 3, -4);
        CHECK.same("drift(0) of one", box.drift(0), 3);
        box.back(false);
        CHECK.same("drift(0) of none again", box.drift(0), 0);
    }

    private static void fluidCells() {
        CHECK.about("15: how many fluid cells there would be, without a step");
        WaterBox one = new WaterBox();
        CHECK.same("of none", one.count(1), 0);
        for (int k = 0; k < 24; k++) {
            one.add(1 + k / 32f, 1 + k / 32f, 0, 0);
        }
        CHECK.same("24 in one cell", one.count(1), 1);
        CHECK.same("24 in 24 cells", Boxes.full().count(1), 24);
        WaterBox edge = new WaterBox();
        edge.add(2, 2, 0, 0);
        edge.add(Math.nextDown(2f), 2, 0, 0);
        edge.add(2, Math.nextDown(2f), 0, 0);
        edge.add(Math.nextDown(2f), Math.nextDown(2f), 0, 0);
        CHECK.same("round a cell's corner", edge.count(1), 4);
        edge.solid(4, 4, true);
        CHECK.same("a solid cell is none", edge.count(1), 4);
    }

    private static void stepOfNone() {
        CHECK.about("7: a step without particles is done, with 0 rounds");
        WaterBox box = new WaterBox();
        box.solver(30, 0);
        box.pull(-4);
        CHECK.same("step(1)", box.step(1), 0);
        CHECK.same("done", box.count(2), 1);
        CHECK.same("failed", box.count(3), 0);
        CHECK.same("rest", box.rest(), 0);
        CHECK.same("v(3, 3)", box.face(1, 3, 3), -4);
        CHECK.same("u(3, 3)", box.face(0, 3, 3), 0);
        CHECK.same("pressure(3, 3)", box.pressure(3, 3), 0);

        CHECK.about("7: and one in a box of solid cells alone");
        WaterBox hard = new WaterBox();
        for (int cell = 0; cell < 36; cell++) {
            hard.solid(cell % 6, cell / 6, true);
        }
        CHECK.same("step(1)", hard.step(1), 0);
        CHECK.same("v(3, 3)", hard.face(1, 3, 3), 0);
        CHECK.badArgument("no place for a particle", () -> hard.add(3, 3, 0, 0));
    }

    private static void stepOfNoneAfterOneWithPressure() {
        CHECK.about("10, 11, 12: of the latest step: one without particles has none of the one before");
        WaterBox box = Boxes.full();
        box.step(1);
        CHECK.same("there was a pressure", box.pressure(2, 2) != 0, true);
        CHECK.same("there was a u", box.face(0, 2, 2) != 0, true);
        CHECK.same("there was a rest", box.rest() > 0, true);
        box.back(false);
        box.step(1);
        CHECK.same("pressure(2, 2)", box.pressure(2, 2), 0);
        CHECK.same("u(2, 2)", box.face(0, 2, 2), 0);
        CHECK.same("rest", box.rest(), 0);
    }

    private static void stepOf24() {
        CHECK.about("7: a step of 24 particles moves each");
        WaterBox box = new WaterBox();
        box.pull(-0.5);
        for (int k = 0; k < 24; k++) {
            box.add(k % 6 + 0.5f, 4.5f, 0, 0);
        }
        CHECK.same("rounds", box.step(0.25), 0);
        for (int k = 0; k < 24; k++) {
            CHECK.same("x of " + k, box.particle(k, 0), k % 6 + 0.5);
            CHECK.same("y of " + k, box.particle(k, 1), 4.46875);
            CHECK.same("b of " + k, box.particle(k, 3), -0.125);
        }
        CHECK.about("13: the energy of 24");
        CHECK.same("energy()", box.energy(), 24 * 0.5 * 0.125 * 0.125);
        CHECK.about("14: the drift of 24");
        CHECK.same("drift(1)", box.drift(1), -0.125);
    }

    private static void energyInDoubles() {
        CHECK.about("13: in doubles");
        WaterBox box = new WaterBox();
        box.add(1, 1, 0.1f, 0.7f);
        double a = 0.1f;
        double b = 0.7f;
        CHECK.same("energy()", box.energy(), 0.5 * (a * a + b * b));
        CHECK.same("not the floats' one", box.energy() != 0.5f * (0.1f * 0.1f + 0.7f * 0.7f), true);
    }

    private static void driftInFloats() {
        CHECK.about("14: the sum over all particles, in turn, divided by how many there are, in floats");
        WaterBox box = new WaterBox();
        float little = 1e-7f;
        box.add(1, 1, 8, little);
        box.add(1, 1, little, 8);
        box.add(1, 1, -8, -8);
        CHECK.same("drift(0): the little one is lost beside 8", box.drift(0), 0);
        CHECK.same("drift(1)", box.drift(1), 0);
        WaterBox other = new WaterBox();
        other.add(1, 1, 8, 0);
        other.add(1, 1, -8, 0);
        other.add(1, 1, little, 0);
        CHECK.same("drift(0): last, it is not lost", other.drift(0), little / 3);
    }

    private static void objectsAreApart() {
        CHECK.about("Promise 1: a new object, while there are others");
        WaterBox first = Boxes.lived();
        String before = Told.of(new WaterBox());
        first.step(0.5);
        CHECK.same("a later one", Told.of(new WaterBox()), before);
        CHECK.same("the first one's steps", first.count(2), 2);
    }

    private static void all512Calls() {
        CHECK.about("An object is used for at most 512 calls");
        WaterBox box = new WaterBox();
        int calls = 0;
        for (int k = 0; k < 24; k++, calls++) {
            box.add(k % 6 + 0.5f, k / 6 + 0.5f, k % 5 - 2, k % 7 - 3);
        }
        int steps = 0;
        for (; calls < 511; calls++, steps++) {
            box.step(0.25);
        }
        CHECK.same("the last of 512", box.count(2), steps);
    }
}

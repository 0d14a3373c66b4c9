/** The seven points of A STEP, each at its edges; TermsTest has HAT and SAMPLING. */
public final class StepPointsTest {
    private static final Check CHECK = new Check("StepPointsTest");
    private static final float LEAST = 0.0625f;
    private static final float MOST = 5.9375f;

    public static void main(String[] args) {
        fluidOrAir();
        faceWithoutParticles();
        oldGridIsNotClosed();
        pullGoesToAllOpenV();
        diagonals();
        diagonalOfNought();
        rightSideInAmount();
        makerAtAQuarter();
        makerBelowAQuarter();
        lastRound();
        doneAtTheLimit();
        facesThatGetPressure();
        airHasNoPressure();
        shareOfNoughtAndOne();
        velocityAtMost8();
        velocityAtLeastMinus8();
        velocityJustBeyond8();
        atTheWallIsNotBehindIt();
        justBehindTheLowerWalls();
        justBehindTheUpperWalls();
        bothWallsAtOnce();
        solidCellAfterTheWall();
        stopsInASolidCell();
        CHECK.end();
    }

    private static void fluidOrAir() {
        CHECK.about("1: a cell is fluid if a particle is in it, else air: only fluid cells take part");
        WaterBox box = Boxes.onTheFloor();
        box.add(2.75f, 0.25f, 0, 0);
        CHECK.same("two particles, one cell", box.count(1), 1);
        box.step(0.5);
        for (int cell = 0; cell < 36; cell++) {
            CHECK.same("pressure of cell " + cell, box.pressure(cell % 6, cell / 6) != 0, cell == 2);
        }
    }

    private static void faceWithoutParticles() {
        CHECK.about("2: the face gets n / m if m is above 0, else 0");
        WaterBox box = Boxes.withoutPressure();
        box.add(2.5f, 2.5f, 4, 0);
        box.step(0.125);
        for (int place = 0; place < 42; place++) {
            int i = place / 6;
            int j = place % 6;
            CHECK.same("u(" + i + ", " + j + ")", box.face(0, i, j), j == 2 && (i == 2 || i == 3) ? 4 : 0);
        }
        CHECK.about("2: m is above 0, however small");
        WaterBox far = Boxes.withoutPressure();
        far.add(Math.nextUp(2f), Math.nextUp(2.5f), 1, 0);
        far.step(0.125);
        CHECK.same("u(3, 3)", far.face(0, 3, 3), 1);
    }

    /** By share 1 the velocity gets new - old: 0.5 - 1 in the middle of a cell whose outer face is closed. */
    private static void oldGridIsNotClosed() {
        CHECK.about("2, 3: the old grid is as gathered: faces are closed in the new grid alone");
        double way = (0.5 + 1.0 / 128) / 32;
        checkParticle(besideClosed(0.5f, 2.5f, 1, 0), 0, 0.5 + way, 2.5, 0.5, 0);
        checkParticle(besideClosed(5.5f, 2.5f, -1, 0), 0, 5.5 - way, 2.5, -0.5, 0);
        checkParticle(besideClosed(2.5f, 0.5f, 0, 1), 0, 2.5, 0.5 + way, 0, 0.5);
        checkParticle(besideClosed(2.5f, 5.5f, 0, -1), 0, 2.5, 5.5 - way, 0, -0.5);
    }

    private static WaterBox besideClosed(float x, float y, float a, float b) {
        WaterBox box = Boxes.withoutPressure();
        box.share(1);
        box.add(x, y, a, b);
        CHECK.same("rounds", box.step(1.0 / 32), 0);
        return box;
    }

    private static void pullGoesToAllOpenV() {
        CHECK.about("3: to each v t * pull is added; then closed faces are 0");
        WaterBox box = new WaterBox();
        box.pull(3);
        box.solid(4, 4, true);
        box.step(0.25);
        for (int place = 0; place < 42; place++) {
            int i = place % 6;
            int j = place / 6;
            boolean closed = j == 0 || j == 6 || i == 4 && (j == 4 || j == 5);
            CHECK.same("v(" + i + ", " + j + ")", box.face(1, i, j), closed ? 0 : 0.75);
            CHECK.same("u(" + j + ", " + i + ")", box.face(0, j, i), 0);
        }
    }

    /** Two particles that go at each other: u is 0.5 on the left of the cell, -0.5 on its right. */
    private static WaterBox squeezed() {
        WaterBox box = new WaterBox();
        box.pull(0);
        box.add(2.25f, 2.5f, 1, 0);
        box.add(2.75f, 2.5f, -1, 0);
        return box;
    }

    private static void diagonals() {
        CHECK.about("4: diagonal: how many of its four neighbours are not solid");
        WaterBox box = squeezed();
        box.step(0.125);
        CHECK.same("none solid", box.pressure(2, 2), 0.25);
        int[][] beside = {{1, 2}, {3, 2}, {2, 1}, {2, 3}};
        double[] right = {0.5, 0.5, 1, 1};
        for (int n = 0; n < 4; n++) {
            WaterBox three = squeezed();
            three.solid(beside[n][0], beside[n][1], true);
            three.step(0.125);
            CHECK.near("neighbour " + n + " solid", three.pressure(2, 2), right[n] / 3);
        }
        WaterBox one = squeezed();
        one.solid(1, 2, true);
        one.solid(2, 1, true);
        one.solid(2, 3, true);
        one.step(0.125);
        CHECK.same("three solid", one.pressure(2, 2), 0.5);

        CHECK.about("4: diagonal: the outside is solid");
        int[][] corners = {{0, 0}, {5, 0}};
        for (int[] corner : corners) {
            WaterBox in = new WaterBox();
            in.add(corner[0] + 0.5f, corner[1] + 0.5f, 0, 0);
            in.step(0.5);
            CHECK.same("pressure in a corner", in.pressure(corner[0], corner[1]), 0.25);
            WaterBox under = new WaterBox();
            under.pull(1);
            under.add(corner[0] + 0.5f, 5.5f, 0, 0);
            under.step(0.5);
            CHECK.same("pressure in an upper corner", under.pressure(corner[0], 5), 0.25);
        }
    }

    private static void diagonalOfNought() {
        CHECK.about("4: cells with diagonal 0 do not take part");
        WaterBox box = new WaterBox();
        box.solver(30, 0);
        box.solid(1, 2, true);
        box.solid(3, 2, true);
        box.solid(2, 1, true);
        box.solid(2, 3, true);
        box.add(2.25f, 2.5f, 8, 8);
        box.add(2.75f, 2.5f, -8, 8);
        CHECK.same("fluid all the same", box.count(1), 1);
        CHECK.same("rounds", box.step(1), 0);
        CHECK.same("pressure", box.pressure(2, 2), 0);
        CHECK.same("rest", box.rest(), 0);
    }

    private static void rightSideInAmount() {
        CHECK.about("4: if no r is above the limit in amount, it is done, with 0 rounds (r below 0)");
        WaterBox box = Boxes.onTheFloor();
        box.pull(1);
        box.back(true);
        CHECK.same("r = -0.125", box.step(0.125), 0);
        CHECK.same("rest", box.rest(), 0.125);
        box.back(false);
        CHECK.same("r just below -0.125", box.step(Math.nextUp(0.125)), 1);
        CHECK.same("pressure is below 0", box.pressure(2, 0) < 0, true);

        CHECK.about("4: one r above the limit is enough, and rest is the greatest");
        WaterBox two = new WaterBox();
        two.pull(0);
        two.solver(0, 0);
        two.add(0.5f, 0.5f, 0, 0.5f);
        two.add(5.5f, 5.5f, 0, 1);
        two.back(true);
        CHECK.same("0.5 and 1", two.step(0.5), 0);
        CHECK.same("rest", two.rest(), 1);
        two.back(false);
        two.add(3.5f, 0.5f, 0, Math.nextUp(1f));
        CHECK.badState("one just above 1", () -> two.step(0.5));
    }

    /**
     * The makers of (1, 0), (0, 1) and (1, 1) are 2, 1 and 2 - 1 / 1 - 1 / 2: with these z is the very pressure,
     * so one round is enough. The right sides are -1.5, 0.5 and -1.
     */
    private static void makerAtAQuarter() {
        CHECK.about("4: if e is 0.25 * its diagonal, it is not below it, and stays");
        WaterBox box = new WaterBox();
        box.solver(30, 40);
        box.solid(0, 0, true);
        box.solid(0, 2, true);
        box.solid(2, 1, true);
        box.solid(1, 2, true);
        box.add(1.5f, 0.5f, 2, 0);
        box.add(0.5f, 1.5f, 0, 0);
        box.add(1.5f, 1.5f, -1, 0);
        CHECK.same("rounds", box.step(0.5), 1);
        CHECK.near("pressure(1, 0)", box.pressure(1, 0), -2);
        CHECK.near("pressure(0, 1)", box.pressure(0, 1), -2);
        CHECK.near("pressure(1, 1)", box.pressure(1, 1), -2.5);
    }

    /** Two cells shut in: the second maker would be 0. */
    private static void makerBelowAQuarter() {
        CHECK.about("4: if then e < 0.25 * its diagonal, e is its diagonal");
        WaterBox box = new WaterBox();
        box.pull(0);
        box.solid(0, 1, true);
        box.solid(1, 1, true);
        box.solid(2, 0, true);
        box.add(0.5f, 0.5f, 1, 0);
        box.add(1.5f, 0.5f, 1, 0);
        CHECK.same("rounds", box.step(0.5), 1);
        CHECK.same("pressure(0, 0)", box.pressure(0, 0), -1);
        CHECK.same("pressure(1, 0)", box.pressure(1, 0), 0);
    }

    private static void lastRound() {
        CHECK.about("4: behind the last round it fails; done in the last round, it does not");
        WaterBox box = new WaterBox();
        Boxes.longAtFinest(box);
        box.solver(30, 18);
        CHECK.badState("one round too few", () -> box.step(1));
        box.solver(30, 19);
        CHECK.same("just enough", box.step(1), 19);
        CHECK.same("rest is not above the limit", box.rest() <= 1.0 / (1 << 30), true);
    }

    /** The right sides are 1.5, 2 and 0.5; after a round r is -0.125, -0.03125 and still 0.5. */
    private static void doneAtTheLimit() {
        CHECK.about("4: if no r is above the limit in amount, after a round too, it is done: 0.5 is not above 0.5");
        WaterBox box = new WaterBox();
        box.pull(0);
        box.solver(1, 1);
        box.solid(3, 1, true);
        box.add(2.5f, 0.5f, 3, 0);
        box.add(3.5f, 0.5f, -1, -3);
        box.add(2.5f, 1.5f, 1, 1);
        box.back(true);
        CHECK.same("rounds", box.step(0.125), 1);
        CHECK.same("rest", box.rest(), 0.5);
        CHECK.near("pressure(3, 0)", box.pressure(3, 0), 1.5 * 4.875 / 4.5);
        box.back(false);
        box.solver(2, 1);
        CHECK.badState("with half the limit", () -> box.step(0.125));
    }

    /** Fluid (2, 0) and (3, 0), pressure 0.25 in both; all else is air. */
    private static void facesThatGetPressure() {
        CHECK.about("5: each face that is not closed, and has a fluid cell on a side, gets less by the pressure");
        WaterBox box = new WaterBox();
        box.solver(30, 40);
        box.add(2.5f, 0.5f, 0, 0);
        box.add(3.5f, 0.5f, 0, 0);
        box.step(0.5);
        CHECK.near("air, then fluid", box.face(0, 2, 0), -0.25);
        CHECK.near("fluid on both sides", box.face(0, 3, 0), 0);
        CHECK.near("fluid, then air", box.face(0, 4, 0), 0.25);
        CHECK.near("fluid, then air above", box.face(1, 2, 1), -0.25);
        CHECK.same("closed below", box.face(1, 2, 0), 0);
        CHECK.same("air on both sides", box.face(1, 1, 1), -0.5);
        CHECK.same("air on both sides, higher", box.face(1, 2, 2), -0.5);

        CHECK.about("5: a closed face at a fluid cell stays 0");
        WaterBox shut = Boxes.onTheFloor();
        shut.solid(3, 0, true);
        shut.step(0.5);
        CHECK.same("to the solid cell", shut.face(0, 3, 0), 0);
        CHECK.near("to the air", shut.face(0, 2, 0), -0.25);
    }

    private static void airHasNoPressure() {
        CHECK.about("5: air has 0, although it had pressure as fluid in an earlier step");
        WaterBox box = Boxes.onTheFloor();
        box.step(0.5);
        CHECK.same("pressure(2, 0) was there", box.pressure(2, 0) != 0, true);
        box.back(false);
        box.add(3.5f, 0.5f, 0, 0);
        box.step(0.5);
        CHECK.same("pressure(2, 0)", box.pressure(2, 0), 0);
        CHECK.near("u(3, 0)", box.face(0, 3, 0), -1.0 / 6);
    }

    private static void shareOfNoughtAndOne() {
        CHECK.about("6: share 0 takes the grid's, share 1 keeps the particle's and adds what changed");
        for (int share = 0; share <= 1; share++) {
            WaterBox box = new WaterBox();
            box.share(share);
            box.add(2.5f, 3.5f, 2, 3);
            box.add(2.5f, 3.5f, 1, 1);
            box.step(0.25);
            CHECK.same("a of 0", box.particle(0, 2), share == 0 ? 1.5 : 2);
            CHECK.same("b of 0", box.particle(0, 3), share == 0 ? 1.75 : 2.75);
            CHECK.same("a of 1", box.particle(1, 2), share == 0 ? 1.5 : 1);
            CHECK.same("b of 1", box.particle(1, 3), share == 0 ? 1.75 : 0.75);
        }
    }

    /** On the floor, right of the cell's middle: the pressure adds 1 / 12 to u there. */
    private static WaterBox fastOnTheFloor(int sign) {
        WaterBox box = new WaterBox();
        box.pull(-4);
        box.share(1);
        box.add(3 - sign * 0.25f, 0.5f, sign * 8, 0);
        CHECK.same("rounds", box.step(0.125), 1);
        return box;
    }

    private static WaterBox fastInTheAir(int sign) {
        WaterBox box = new WaterBox();
        box.pull(sign * 4);
        box.share(1);
        box.add(2.5f, 2.5f, 0, sign * 8);
        CHECK.same("rounds", box.step(0.0625), 0);
        return box;
    }

    private static void velocityAtMost8() {
        CHECK.about("6: a and b become at most 8");
        CHECK.same("a", fastOnTheFloor(1).particle(0, 2), 8);
        CHECK.same("b", fastInTheAir(1).particle(0, 3), 8);
    }

    private static void velocityAtLeastMinus8() {
        CHECK.about("6: a and b become at least -8");
        CHECK.same("a", fastOnTheFloor(-1).particle(0, 2), -8);
        CHECK.same("b", fastInTheAir(-1).particle(0, 3), -8);
    }

    /** The pull adds 2^-20 to b, the least that a float above 8 can have; the pressure a third more to a. */
    private static void velocityJustBeyond8() {
        CHECK.about("6: at least -8, at most 8: the float next to it is too much");
        for (int sign = -1; sign <= 1; sign += 2) {
            WaterBox air = new WaterBox();
            air.pull(sign * 4);
            air.share(1);
            air.add(2.5f, 2.5f, 0, sign * 8);
            air.step(1.0 / (1 << 22));
            CHECK.same("v", air.face(1, 2, 2), sign * (8 + 1.0 / (1 << 20)));
            CHECK.same("b", air.particle(0, 3), sign * 8);
            WaterBox floor = new WaterBox();
            floor.pull(-4);
            floor.share(1);
            floor.solver(30, 40);
            floor.add(3 - sign * 0.25f, 0.5f, sign * 8, 0);
            CHECK.same("rounds", floor.step(1.0 / (1 << 19)), 1);
            CHECK.same("u is more", sign * floor.face(0, 3, 0) > 8, true);
            CHECK.same("a", floor.particle(0, 2), sign * 8);
        }
    }

    /** Two at one place with opposite velocities: the grid is 0, so they stay, and keep theirs by share 1. */
    private static void atTheWallIsNotBehindIt() {
        CHECK.about("7: x or y of 0.0625 or 5.9375 is not below or above it: it is not held, nor turned");
        float next = Math.nextUp(LEAST);
        float last = Math.nextDown(MOST);
        float[][] places = {{LEAST, 2.5f}, {MOST, 2.5f}, {2.5f, LEAST}, {2.5f, MOST}, {LEAST, MOST}, {MOST, LEAST},
            {next, 2.5f}, {last, 2.5f}, {2.5f, next}, {2.5f, last}, {next, last}, {last, next}};
        for (float[] place : places) {
            WaterBox box = Boxes.withoutPressure();
            box.share(1);
            box.add(place[0], place[1], 1, 1);
            box.add(place[0], place[1], -1, -1);
            box.step(1);
            for (int k = 0; k < 2; k++) {
                checkParticle(box, k, place[0], place[1], k == 0 ? 1 : -1, k == 0 ? 1 : -1);
            }
        }
    }

    /** At 0.0625 u is -0.0625; a float just below 0.0625 is 2^-28 less. */
    private static void justBehindTheLowerWalls() {
        double reach = 1.0 / (1 << 24);
        CHECK.about("7: if it is below 0.0625 then, by the least that a float can be, it is 0.0625 and turned");
        checkParticle(pushed(LEAST, 2.5f, -1, 0, reach), 0, LEAST, 2.5, 0.03125, 0);
        checkParticle(pushed(2.5f, LEAST, 0, -1, reach), 0, 2.5, LEAST, 0, 0.03125);
        CHECK.about("7: if the float is 0.0625 again, it is not below, and is not turned");
        checkParticle(pushed(LEAST, 2.5f, -1, 0, reach / 4), 0, LEAST, 2.5, -0.0625, 0);
        checkParticle(pushed(2.5f, LEAST, 0, -1, reach / 4), 0, 2.5, LEAST, 0, -0.0625);
    }

    /** A float just above 5.9375 is 2^-21 more. */
    private static void justBehindTheUpperWalls() {
        double reach = 1.0 / (1 << 17);
        CHECK.about("7: if it is above 5.9375 then, by the least that a float can be, it is that and turned");
        checkParticle(pushed(MOST, 2.5f, 1, 0, reach), 0, MOST, 2.5, -0.03125, 0);
        checkParticle(pushed(2.5f, MOST, 0, 1, reach), 0, 2.5, MOST, 0, -0.03125);
        CHECK.about("7: if the float is 5.9375 again, it is not above, and is not turned");
        checkParticle(pushed(MOST, 2.5f, 1, 0, reach / 4), 0, MOST, 2.5, 0.0625, 0);
        checkParticle(pushed(2.5f, MOST, 0, 1, reach / 4), 0, 2.5, MOST, 0, 0.0625);
    }

    private static WaterBox pushed(float x, float y, float a, float b, double t) {
        WaterBox box = Boxes.withoutPressure();
        box.share(0);
        box.add(x, y, a, b);
        CHECK.same("rounds", box.step(t), 0);
        return box;
    }

    private static void bothWallsAtOnce() {
        CHECK.about("7: likewise y and b: both walls at once");
        double reach = 1.0 / (1 << 17);
        checkParticle(pushed(MOST, MOST, 0.5f, 0.5f, 2 * reach), 0, MOST, MOST, -0.015625, -0.015625);
        checkParticle(pushed(LEAST, LEAST, -0.5f, -0.5f, reach), 0, LEAST, LEAST, 0.015625, 0.015625);
        checkParticle(pushed(LEAST, MOST, -0.5f, 0.5f, 2 * reach), 0, LEAST, MOST, 0.015625, -0.015625);
    }

    /** Carried by the other one's faces from (2, 2) to behind the wall, where the solid (5, 2) is. */
    private static void solidCellAfterTheWall() {
        CHECK.about("7: if its cell is solid then, behind a wall too, it stays where it was, and a and b become 0");
        WaterBox box = new WaterBox();
        box.pull(0);
        box.add(2.5f, 2.5f, 4, 0);
        box.add(4.5f, 2.5f, 8, 0);
        box.back(true);
        box.solid(5, 2, true);
        CHECK.same("rounds", box.step(0.7), 1);
        checkParticle(box, 0, 2.5, 2.5, 0, 0);

        CHECK.about("7: without the solid cell it is held at the wall");
        box.back(false);
        CHECK.same("rounds", box.step(0.7), 0);
        CHECK.same("x", box.particle(0, 0), MOST);
        CHECK.same("a", box.particle(0, 2), -2);
    }

    private static void stopsInASolidCell() {
        CHECK.about("7: if its cell is solid then, it stays where it was, and a and b become 0");
        WaterBox box = new WaterBox();
        box.pull(0);
        box.solver(0, 0);
        box.solid(3, 2, true);
        box.add(2.9f, 2.95f, 1, 0.25f);
        box.add(0.5f, 4.5f, 1, 0);
        box.step(0.25);
        checkParticle(box, 0, 2.9f, 2.95f, 0, 0);
        CHECK.same("the next one is moved as ever", box.particle(1, 0) > 0.5, true);
        CHECK.badState("its cell has it still", () -> box.solid(2, 2, true));
    }

    private static void checkParticle(WaterBox box, int k, double x, double y, double a, double b) {
        CHECK.same("x of " + k, box.particle(k, 0), x);
        CHECK.same("y of " + k, box.particle(k, 1), y);
        CHECK.same("a of " + k, box.particle(k, 2), a);
        CHECK.same("b of " + k, box.particle(k, 3), b);
    }
}

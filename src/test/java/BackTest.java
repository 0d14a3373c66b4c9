/** Promise 8: marks, at their edges. */
public final class BackTest {
    private static final Check CHECK = new Check("BackTest");

    public static void main(String[] args) {
        beforeAnyMark();
        settingsBeforeAnyMark();
        roundsBeforeAnyMark();
        answers();
        allAsAtTheMark();
        eachCellAsAtTheMark();
        eachParticleAsAtTheMark();
        limitAndRoundsAsAtTheMark();
        latestMarkOfTwo();
        markIsNotChangedByLaterCalls();
        markOfNoneAndOf24();
        solidCellsAndParticlesTogether();
        stepsAreNotOfAMark();
        CHECK.end();
    }

    private static void beforeAnyMark() {
        CHECK.about("8: at first as at the beginning");
        WaterBox fresh = new WaterBox();
        CHECK.same("back(false) of a new one", fresh.back(false), true);
        CHECK.same("all that it tells", Told.of(fresh), Told.of(new WaterBox()));
        WaterBox box = new WaterBox();
        Boxes.longAtFirst(box);
        box.pull(3);
        box.share(0.25f);
        CHECK.same("back(false)", box.back(false), true);
        CHECK.same("all that it tells", Told.of(box), Told.of(new WaterBox()));
        CHECK.same("back(false) again", box.back(false), true);
        CHECK.same("the first number", box.add(1, 1, 0, 0), 0);
    }

    private static void settingsBeforeAnyMark() {
        CHECK.about("8: at first as at the beginning: the settings");
        WaterBox box = Boxes.onTheFloor();
        box.pull(2);
        box.share(0);
        box.solver(0, 0);
        box.back(false);
        CHECK.same("pull", box.pull(-1), -1);
        CHECK.same("share", box.share(0.5f), 0.5);
        box.add(2.5f, 0.5f, 0, 0);
        CHECK.same("limit is 0.125, and there are rounds", box.step(Math.nextUp(0.125)), 1);
        box.solver(30, 40);
        box.back(false);
        box.add(2.5f, 0.5f, 0, 0);
        CHECK.same("limit is 0.125", box.step(0.125), 0);
    }

    private static void roundsBeforeAnyMark() {
        CHECK.about("8: at first as at the beginning: the rounds");
        WaterBox box = new WaterBox();
        box.solver(3, 1);
        box.back(false);
        Boxes.longAtFirst(box);
        CHECK.same("rounds", box.step(1), 13);
    }

    private static void answers() {
        CHECK.about("8: true; marks it when mark is true: false");
        WaterBox box = new WaterBox();
        CHECK.same("back(true)", box.back(true), false);
        CHECK.same("back(true) again", box.back(true), false);
        CHECK.same("back(false)", box.back(false), true);
        CHECK.same("back(false) again", box.back(false), true);
        CHECK.same("back(true) at last", box.back(true), false);
    }

    private static void spoil(WaterBox box) {
        box.solid(4, 0, false);
        box.solid(5, 5, true);
        box.add(1.5f, 4.5f, 1, 1);
        box.pull(4);
        box.share(1);
        box.solver(30, 40);
        box.step(0.5);
    }

    private static String kept(WaterBox box) {
        return Told.settings(box) + Told.solids(box) + Told.particles(box);
    }

    private static void allAsAtTheMark() {
        CHECK.about("8: all as it was at the latest mark (settings, solid cells and particles)");
        WaterBox box = Boxes.lived();
        box.back(true);
        spoil(box);
        CHECK.same("back(false)", box.back(false), true);
        CHECK.same("all that is kept", kept(box), kept(Boxes.lived()));
        CHECK.same("the next number", box.add(1, 1, 0, 0), 4);
    }

    private static void eachCellAsAtTheMark() {
        CHECK.about("8: as it was at the latest mark: each solid cell, and each that is not");
        for (int cell = 0; cell < 36; cell++) {
            WaterBox box = new WaterBox();
            int i = cell % 6;
            int j = cell / 6;
            box.solid(i, j, true);
            box.back(false);
            CHECK.same("not solid at the beginning: cell " + cell, box.solid(i, j, true), false);
            box.back(true);
            box.solid(i, j, false);
            box.back(false);
            CHECK.same("solid at the mark: cell " + cell, box.solid(i, j, true), true);
        }
    }

    private static void eachParticleAsAtTheMark() {
        CHECK.about("8: as it was at the latest mark: each number of each particle");
        WaterBox box = Boxes.full();
        box.back(true);
        box.step(0.5);
        box.back(false);
        CHECK.same("particles", Told.particles(box), Told.particles(Boxes.full()));
    }

    private static void limitAndRoundsAsAtTheMark() {
        CHECK.about("8: as it was at the latest mark: limit and rounds");
        WaterBox box = Boxes.onTheFloor();
        box.solver(2, 0);
        box.back(true);
        box.solver(0, 40);
        box.back(false);
        CHECK.badState("a right side above the limit", () -> box.step(Math.nextUp(0.25)));
        box.solver(30, 40);
        box.back(false);
        CHECK.same("one at the limit", box.step(0.25), 0);
        box.solver(2, 1);
        box.back(true);
        box.solver(2, 0);
        box.back(false);
        CHECK.same("a round is there again", box.step(0.75), 1);
    }

    private static void latestMarkOfTwo() {
        CHECK.about("8: the latest mark");
        WaterBox box = new WaterBox();
        box.add(1, 1, 0, 0);
        box.back(true);
        box.add(2, 1, 0, 0);
        box.pull(2);
        box.back(true);
        box.add(3, 1, 0, 0);
        box.pull(3);
        box.back(false);
        CHECK.same("particles", box.count(0), 2);
        CHECK.same("pull", box.pull(2), 2);
        box.back(false);
        CHECK.same("particles, once more", box.count(0), 2);
    }

    private static void markIsNotChangedByLaterCalls() {
        CHECK.about("8: the mark is as it was then, whatever came after it, before and after back");
        WaterBox box = Boxes.lived();
        box.back(true);
        for (int turn = 0; turn < 3; turn++) {
            spoil(box);
            CHECK.badArgument("a refused call", () -> box.pull(5));
            box.back(false);
            CHECK.same("particle(0, 0)", box.particle(0, 0), Boxes.lived().particle(0, 0));
        }
        CHECK.same("all that is kept", kept(box), kept(Boxes.lived()));
    }

    private static void markOfNoneAndOf24() {
        CHECK.about("8: a mark without particles, and one with 24");
        WaterBox box = new WaterBox();
        box.back(true);
        for (int k = 0; k < 24; k++) {
            box.add(1 + k / 8f, 1, 0, 0);
        }
        box.back(false);
        CHECK.same("none", box.count(0), 0);
        CHECK.noSuch("particle(0, 0)", () -> box.particle(0, 0));
        for (int k = 0; k < 24; k++) {
            CHECK.same("number", box.add(1 + k / 8f, 2, 0, 0), k);
        }
        box.back(true);
        box.step(0.5);
        box.back(false);
        CHECK.same("24", box.count(0), 24);
        CHECK.same("particle(23, 0)", box.particle(23, 0), 3.875);
        CHECK.same("particle(23, 1)", box.particle(23, 1), 2);
        CHECK.badState("one more", () -> box.add(1, 1, 0, 0));
    }

    private static void solidCellsAndParticlesTogether() {
        CHECK.about("8: a cell that was solid is so again, and the particle in it is gone");
        WaterBox box = new WaterBox();
        box.solid(2, 2, true);
        box.back(true);
        box.solid(2, 2, false);
        box.add(2.5f, 2.5f, 0, 0);
        box.back(false);
        CHECK.same("particles", box.count(0), 0);
        CHECK.badArgument("add into it", () -> box.add(2.5f, 2.5f, 0, 0));
        CHECK.same("solid(2, 2, false)", box.solid(2, 2, false), true);

        CHECK.about("8: a particle that went out of a cell is in it again, and the cell is not solid");
        WaterBox other = Boxes.withoutPressure();
        other.add(2.75f, 2.5f, 1, 0);
        other.back(true);
        other.step(0.5);
        CHECK.same("x outside of it", other.particle(0, 0), 3.25);
        CHECK.same("solid(2, 2, true)", other.solid(2, 2, true), false);
        CHECK.badState("solid(3, 2, true)", () -> other.solid(3, 2, true));
        other.back(false);
        CHECK.same("x in it again", other.particle(0, 0), 2.75);
        CHECK.badState("solid(2, 2, true) again", () -> other.solid(2, 2, true));
        CHECK.same("solid(2, 2, false)", other.solid(2, 2, false), false);
    }

    private static void stepsAreNotOfAMark() {
        CHECK.about("8: what is told of the latest step is not among what a mark has");
        WaterBox box = Boxes.lived();
        box.back(false);
        CHECK.same("steps", Told.steps(box), Told.steps(Boxes.lived()));
        CHECK.same("failed", box.count(3), 1);
    }
}

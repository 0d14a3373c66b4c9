/** Promises 7 and 10 to 12: what is told of the latest step that was done. */
public final class LatestStepTest {
    private static final Check CHECK = new Check("LatestStepTest");

    public static void main(String[] args) {
        roundsOfAStep();
        pressureOfCellsThatTookNoPart();
        pressureOfTheLatest();
        pressureStaysTillTheNextStep();
        faceOfTheNewGrid();
        faceOfTheLatest();
        restAtMostTheLimit();
        restInAmount();
        restOfTheLatest();
        CHECK.end();
    }

    private static void roundsOfAStep() {
        CHECK.about("7: how many rounds the solver made");
        CHECK.same("none", Boxes.onTheFloor().step(0.125), 0);
        CHECK.same("one", Boxes.onTheFloor().step(0.5), 1);
        WaterBox box = new WaterBox();
        Boxes.longAtFirst(box);
        CHECK.same("at the first limit", box.step(1), 13);
        WaterBox fine = new WaterBox();
        Boxes.longAtFinest(fine);
        fine.solver(30, 40);
        CHECK.same("at the finest limit", fine.step(1), 19);
    }

    private static void pressureOfCellsThatTookNoPart() {
        CHECK.about("10: 0 when it did not take part: air, solid, fluid without neighbours");
        WaterBox box = Boxes.onTheFloor();
        box.solid(0, 1, true);
        box.solid(1, 0, true);
        box.add(0.5f, 0.5f, 1, 1);
        box.step(0.5);
        CHECK.same("fluid", box.pressure(2, 0) != 0, true);
        CHECK.same("air", box.pressure(3, 0), 0);
        CHECK.same("solid", box.pressure(1, 0), 0);
        CHECK.same("fluid without neighbours", box.pressure(0, 0), 0);
    }

    private static void pressureOfTheLatest() {
        CHECK.about("10: of the latest step that was done: 0 in one of 0 rounds, whatever was before");
        WaterBox box = Boxes.onTheFloor();
        box.step(0.5);
        CHECK.near("first", box.pressure(2, 0), 1.0 / 6);
        box.back(false);
        box.add(2.5f, 0.5f, 0, 0);
        box.step(0.75);
        CHECK.near("second", box.pressure(2, 0), 0.25);
        box.back(false);
        box.add(2.5f, 0.5f, 0, 0);
        CHECK.same("rounds", box.step(0.125), 0);
        CHECK.same("third", box.pressure(2, 0), 0);
    }

    private static void pressureStaysTillTheNextStep() {
        CHECK.about("10: in the latest step: later calls do not change it");
        WaterBox box = Boxes.onTheFloor();
        box.step(0.5);
        String before = Told.steps(box);
        box.back(false);
        box.solid(2, 0, true);
        box.add(3.5f, 0.5f, 1, 1);
        box.pull(3);
        box.solver(30, 0);
        CHECK.badState("a failing step", () -> box.step(1));
        CHECK.badArgument("a refused step", () -> box.step(0));
        CHECK.same("pressures, faces, rest", Told.steps(box), before);
    }

    private static void faceOfTheNewGrid() {
        CHECK.about("11: of the new grid: with the pull, closed ones 0, and with the pressure");
        WaterBox box = Boxes.onTheFloor();
        box.step(0.5);
        CHECK.same("with the pull", box.face(1, 4, 4), -0.5);
        CHECK.same("closed", box.face(1, 2, 0), 0);
        CHECK.near("with the pressure", box.face(1, 2, 1), -1.0 / 3);
        CHECK.near("u, with the pressure", box.face(0, 3, 0), 1.0 / 6);
    }

    private static void faceOfTheLatest() {
        CHECK.about("11: of the latest step that was done");
        WaterBox box = Boxes.withoutPressure();
        box.add(2.5f, 2.5f, 4, 0);
        box.step(0.125);
        CHECK.same("first", box.face(0, 2, 2), 4);
        box.back(false);
        box.pull(0);
        box.add(2.5f, 4.5f, 0, 3);
        box.step(0.125);
        CHECK.same("second, u", box.face(0, 2, 2), 0);
        CHECK.same("second, v", box.face(1, 2, 4), 3);
    }

    private static void restAtMostTheLimit() {
        CHECK.about("12: the greatest r, at most the limit");
        for (int k = 0; k <= 30; k += 3) {
            WaterBox box = Boxes.full();
            double limit = box.solver(k, 40);
            box.step(1);
            CHECK.same("rest is at most the limit, k = " + k, box.rest() <= limit, true);
            CHECK.same("rest is there, k = " + k, box.rest() > 0, true);
        }
    }

    private static void restInAmount() {
        CHECK.about("12: the greatest r in amount, with r below 0 and above it");
        WaterBox box = Boxes.withoutPressure();
        box.add(2.5f, 0.5f, 0, 0.75f);
        box.add(4.5f, 5.5f, 0, 0.5f);
        CHECK.same("rounds", box.step(0.5), 0);
        CHECK.same("rest of -0.75 and 0.5", box.rest(), 0.75);
        WaterBox other = Boxes.withoutPressure();
        other.add(2.5f, 0.5f, 0, 0.5f);
        other.add(4.5f, 5.5f, 0, 0.75f);
        CHECK.same("rounds", other.step(0.5), 0);
        CHECK.same("rest of -0.5 and 0.75", other.rest(), 0.75);
    }

    private static void restOfTheLatest() {
        CHECK.about("12: of the latest step that was done");
        WaterBox box = Boxes.onTheFloor();
        box.back(true);
        box.step(0.125);
        CHECK.same("first", box.rest(), 0.125);
        box.back(false);
        box.step(0.0625);
        CHECK.same("second", box.rest(), 0.0625);
        box.back(false);
        box.solver(30, 0);
        CHECK.badState("a failing one", () -> box.step(1));
        CHECK.same("as it was", box.rest(), 0.0625);
    }
}

/** A step that fails: it throws, and nothing is changed, but count(3) is one more. */
public final class FailedStepTest {
    private static final Check CHECK = new Check("FailedStepTest");

    public static void main(String[] args) {
        nothingIsChanged();
        nothingIsChangedWith24();
        theMarkIsKept();
        theSettingsAreKept();
        laterStepsAreTheSame();
        countsEachFailure();
        failsWithoutRounds();
        CHECK.end();
    }

    private static void fail(WaterBox box) {
        box.solver(30, 1);
        CHECK.badState("step(1)", () -> box.step(1));
        CHECK.badState("step(0.25)", () -> box.step(0.25));
        box.solver(20, 30);
    }

    private static void nothingIsChanged() {
        CHECK.about("7: when it fails nothing is changed");
        WaterBox box = Boxes.lived();
        fail(box);
        CHECK.same("all but count(3)", Told.butFailed(box), Told.butFailed(Boxes.lived()));
        CHECK.about("7: but count(3) is one more");
        CHECK.same("count(3)", box.count(3), 3);
    }

    private static void nothingIsChangedWith24() {
        CHECK.about("7: when it fails nothing is changed, of 24 particles");
        WaterBox box = new WaterBox();
        Boxes.longAtFinest(box);
        box.solver(30, 18);
        CHECK.badState("step(1)", () -> box.step(1));
        WaterBox twin = new WaterBox();
        Boxes.longAtFinest(twin);
        CHECK.same("all but count(3)", Told.butFailed(box), Told.butFailed(twin));
        CHECK.same("count(3)", box.count(3), 1);
    }

    private static void theMarkIsKept() {
        CHECK.about("7: when it fails the mark is not changed");
        WaterBox box = Boxes.lived();
        fail(box);
        WaterBox twin = Boxes.lived();
        CHECK.same("back(false)", box.back(false), twin.back(false));
        CHECK.same("all but count(3)", Told.butFailed(box), Told.butFailed(twin));
    }

    private static void theSettingsAreKept() {
        CHECK.about("7: when it fails the limit and the rounds are not changed");
        WaterBox box = Boxes.onTheFloor();
        box.solver(4, 0);
        CHECK.badState("step(1)", () -> box.step(1));
        CHECK.badState("limit is not greater", () -> box.step(Math.nextUp(0.0625)));
        CHECK.same("limit is not less", box.step(0.0625), 0);
        WaterBox hard = new WaterBox();
        Boxes.longAtFinest(hard);
        hard.solver(30, 18);
        CHECK.badState("rounds as they were", () -> hard.step(1));
        CHECK.badState("rounds are not more", () -> hard.step(1));
    }

    private static void laterStepsAreTheSame() {
        CHECK.about("A step that the solver cannot do is as if it had not been");
        WaterBox box = Boxes.lived();
        fail(box);
        WaterBox twin = Boxes.lived();
        CHECK.same("rounds", box.step(0.75), twin.step(0.75));
        CHECK.same("all but count(3)", Told.butFailed(box), Told.butFailed(twin));
    }

    private static void countsEachFailure() {
        CHECK.about("15: how many steps were done and failed");
        WaterBox box = Boxes.onTheFloor();
        box.solver(30, 0);
        for (int n = 1; n <= 3; n++) {
            CHECK.badState("step(1)", () -> box.step(1));
            CHECK.same("failed", box.count(3), n);
            CHECK.same("done", box.count(2), 0);
        }
        box.solver(30, 1);
        CHECK.same("rounds", box.step(1), 1);
        CHECK.same("failed", box.count(3), 3);
        CHECK.same("done", box.count(2), 1);
        CHECK.badArgument("step(0)", () -> box.step(0));
        CHECK.same("a refused one did not fail", box.count(3), 3);
        CHECK.same("a refused one was not done", box.count(2), 1);
        box.back(false);
        CHECK.same("failed, after back", box.count(3), 3);
        CHECK.same("done, after back", box.count(2), 1);
    }

    private static void failsWithoutRounds() {
        CHECK.about("4: with 0 rounds it fails, unless it is done with none");
        WaterBox box = Boxes.onTheFloor();
        box.solver(3, 0);
        CHECK.badState("a right side above the limit", () -> box.step(Math.nextUp(0.125)));
        CHECK.same("one at the limit", box.step(0.125), 0);
    }
}

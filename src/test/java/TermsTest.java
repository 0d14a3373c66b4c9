/** The section Terms: numbers, cells, faces, first settings, HAT and SAMPLING, at their edges. */
public final class TermsTest {
    private static final Check CHECK = new Check("TermsTest");

    public static void main(String[] args) {
        floatsAreWidened();
        doublesAreRounded();
        cellsCoverTheirPlaces();
        cellsCoverTheirHeights();
        outsideIsSolid();
        facesAtASolidCellAreClosed();
        closedFacesOpenAgain();
        settingsAtFirst();
        roundsAtFirst();
        hatAlongX();
        hatAlongY();
        hatBeyondOne();
        samplingUBelowTheLowestRow();
        samplingUAboveTheHighestRow();
        samplingVOutsideTheColumns();
        samplingURightOfTheBox();
        samplingULeftOfTheBox();
        samplingVAboveTheBox();
        samplingVBelowTheBox();
        CHECK.end();
    }

    private static void floatsAreWidened() {
        CHECK.about("A float that comes into a double's sum is widened");
        WaterBox box = Boxes.withoutPressure();
        box.add(2.1f, 2.5f, 0.3f, 0);
        box.add(2.7f, 2.5f, -0.6f, 0);
        box.step(0.5);
        double near = 1 - ((double) 2.1f - 2);
        double far = 1 - ((double) 2.7f - 2);
        double due = (near * (double) 0.3f + far * (double) -0.6f) / (near + far);
        CHECK.same("u(2, 2)", box.face(0, 2, 2), due);
    }

    private static void doublesAreRounded() {
        CHECK.about("A double that becomes a float is rounded");
        for (int sign = -1; sign <= 1; sign += 2) {
            for (double t : new double[] {0.1, 0.3, 0.7}) {
                WaterBox box = Boxes.withoutPressure();
                box.share(0);
                box.add(2.5f, 3.5f, sign * 0.3f, 0);
                box.step(t);
                double exact = 2.5 + t * (double) (sign * 0.3f);
                CHECK.same("x", box.particle(0, 0), (float) exact);
                double off = Math.abs(box.particle(0, 0) - exact);
                CHECK.same("to the nearest", off <= Math.ulp(2.5f) / 2, true);
            }
        }
    }

    private static void cellsCoverTheirPlaces() {
        CHECK.about("Cells cover the places i <= x < i + 1");
        for (int i = 1; i <= 5; i++) {
            int at = i;
            WaterBox box = new WaterBox();
            box.add(i, 2.5f, 0, 0);
            CHECK.badState("x = i is in cell i = " + i, () -> box.solid(at, 2, true));
            CHECK.same("and not in the one before", box.solid(i - 1, 2, true), false);
            WaterBox before = new WaterBox();
            before.add(Math.nextDown((float) i), 2.5f, 0, 0);
            CHECK.badState("x just below i is in the one before", () -> before.solid(at - 1, 2, true));
            CHECK.same("and not in cell i = " + i, before.solid(i, 2, true), false);
        }
    }

    private static void cellsCoverTheirHeights() {
        CHECK.about("Cells cover the places j <= y < j + 1");
        for (int j = 1; j <= 5; j++) {
            int at = j;
            WaterBox box = new WaterBox();
            box.add(2.5f, j, 0, 0);
            CHECK.badState("y = j is in cell j = " + j, () -> box.solid(2, at, true));
            CHECK.same("and not in the one below", box.solid(2, j - 1, true), false);
            WaterBox before = new WaterBox();
            before.add(2.5f, Math.nextDown((float) j), 0, 0);
            CHECK.badState("y just below j is in the one below", () -> before.solid(2, at - 1, true));
            CHECK.same("and not in cell j = " + j, before.solid(2, j, true), false);
        }
    }

    /** Particles all along the walls, all going outward. */
    private static void outsideIsSolid() {
        CHECK.about("So is all around the box (solid): the faces to the outside are closed");
        WaterBox box = new WaterBox();
        box.solver(10, 40);
        for (int n = 0; n < 5; n++) {
            box.add(0.5f, n + 0.5f, -8, -8);
            box.add(5.5f, n + 1.5f, 8, 8);
            box.add(n + 1.5f, 0.5f, 8, -8);
            box.add(n + 0.5f, 5.5f, -8, 8);
        }
        box.step(0.01);
        for (int n = 0; n < 6; n++) {
            CHECK.same("u(0, " + n + ")", box.face(0, 0, n), 0);
            CHECK.same("u(6, " + n + ")", box.face(0, 6, n), 0);
            CHECK.same("v(" + n + ", 0)", box.face(1, n, 0), 0);
            CHECK.same("v(" + n + ", 6)", box.face(1, n, 6), 0);
        }
        CHECK.same("u(1, 2) is not closed", box.face(0, 1, 2) != 0, true);
        CHECK.same("u(5, 2) is not closed", box.face(0, 5, 2) != 0, true);
        CHECK.same("v(2, 1) is not closed", box.face(1, 2, 1) != 0, true);
        CHECK.same("v(2, 5) is not closed", box.face(1, 2, 5) != 0, true);
    }

    private static WaterBox roundASolidCell() {
        WaterBox box = new WaterBox();
        box.solver(10, 40);
        box.pull(-3);
        box.solid(2, 3, true);
        box.add(1.5f, 3.5f, 3, 1);
        box.add(3.5f, 3.5f, 3, 1);
        box.add(2.5f, 2.5f, 1, 4);
        box.add(2.5f, 4.5f, 1, 4);
        return box;
    }

    private static void facesAtASolidCellAreClosed() {
        CHECK.about("A face with a solid cell on a side is closed");
        WaterBox box = roundASolidCell();
        box.step(0.125);
        CHECK.same("left of it", box.face(0, 2, 3), 0);
        CHECK.same("right of it", box.face(0, 3, 3), 0);
        CHECK.same("below it", box.face(1, 2, 3), 0);
        CHECK.same("above it", box.face(1, 2, 4), 0);
        CHECK.same("next to the left", box.face(0, 1, 3) != 0, true);
        CHECK.same("next to the right", box.face(0, 4, 3) != 0, true);
        CHECK.same("next below", box.face(1, 2, 2) != 0, true);
        CHECK.same("next above", box.face(1, 2, 5) != 0, true);
    }

    private static void closedFacesOpenAgain() {
        CHECK.about("A face is not closed when the cell is not solid any more");
        WaterBox box = roundASolidCell();
        box.solid(2, 3, false);
        box.step(0.125);
        CHECK.same("left of it", box.face(0, 2, 3) != 0, true);
        CHECK.same("right of it", box.face(0, 3, 3) != 0, true);
        CHECK.same("below it", box.face(1, 2, 3) != 0, true);
        CHECK.same("above it", box.face(1, 2, 4) != 0, true);
    }

    private static void settingsAtFirst() {
        CHECK.about("The pull is -1 at first");
        WaterBox box = new WaterBox();
        box.step(0.5);
        CHECK.same("v(0, 3) by a step", box.face(1, 0, 3), -0.5);
        CHECK.same("pull(3)", box.pull(3), -1);

        CHECK.about("The share is 0.5 at first");
        WaterBox two = new WaterBox();
        two.pull(0);
        two.add(2.5f, 2.5f, 2, 0);
        two.add(2.5f, 2.5f, 0, 0);
        two.step(0.25);
        CHECK.same("a by a step", two.particle(0, 2), 1.5);
        CHECK.same("share(1)", two.share(1), 0.5);

        CHECK.about("The limit is 0.125 at first");
        CHECK.same("a right side of 0.125", Boxes.onTheFloor().step(0.125), 0);
        CHECK.same("one above it", Boxes.onTheFloor().step(Math.nextUp(0.125)), 1);
    }

    /** InsideTest looks at the number itself. */
    private static void roundsAtFirst() {
        CHECK.about("The rounds are 20 at first: no box was found that needs more than 13 then");
        WaterBox box = new WaterBox();
        Boxes.longAtFirst(box);
        CHECK.same("step(1)", box.step(1), 13);
    }

    /** The right side of a cell is at most 1 here, so that the grid is seen without pressure. */
    private static double[] alongX(float x, int j) {
        WaterBox box = Boxes.withoutPressure();
        box.add(x, 2.5f, 1, 0);
        box.step(0.125);
        return new double[] {box.face(0, 1, j), box.face(0, 2, j), box.face(0, 3, j)};
    }

    private static void checkRow(String at, double[] got, double... due) {
        for (int n = 0; n < due.length; n++) {
            CHECK.same(at + ", face " + (n + 1), got[n], due[n]);
        }
    }

    private static void hatAlongX() {
        CHECK.about("HAT(d) is 1 - d for 0 <= d < 1, 1 + d for -1 < d < 0, else 0 (u along x, v along y)");
        checkRow("x = 2", alongX(2, 2), 0, 1, 0);
        checkRow("x just above 2", alongX(Math.nextUp(2f), 2), 0, 1, 1);
        checkRow("x just below 2", alongX(Math.nextDown(2f), 2), 1, 1, 0);
        checkRow("x = 2, the row above", alongX(2, 3), 0, 0, 0);
        checkRow("y = 2", alongY(2, 2), 0, 1, 0);
        checkRow("y just above 2", alongY(Math.nextUp(2f), 2), 0, 1, 1);
        checkRow("y just below 2", alongY(Math.nextDown(2f), 2), 1, 1, 0);
        checkRow("y = 2, the column beside", alongY(2, 1), 0, 0, 0);

        CHECK.about("HAT(0.25) is 0.75, HAT(-0.75) is 0.25");
        WaterBox box = Boxes.withoutPressure();
        box.add(2.25f, 2.5f, 1, 0);
        box.add(3, 2.5f, 0, 0);
        box.step(0.125);
        CHECK.same("u(3, 2)", box.face(0, 3, 2), 0.25 / 1.25);
        CHECK.same("u(2, 2)", box.face(0, 2, 2), 1);
    }

    private static double[] alongY(float y, int i) {
        WaterBox box = Boxes.withoutPressure();
        box.add(2.5f, y, 0, 1);
        box.step(0.125);
        return new double[] {box.face(1, i, 1), box.face(1, i, 2), box.face(1, i, 3)};
    }

    private static double[] acrossU(float y) {
        WaterBox box = Boxes.withoutPressure();
        box.add(2.5f, y, 1, 0);
        box.step(0.125);
        return new double[] {box.face(0, 2, 1), box.face(0, 2, 2), box.face(0, 2, 3)};
    }

    private static double[] acrossV(float x) {
        WaterBox box = Boxes.withoutPressure();
        box.add(x, 2.5f, 0, 1);
        box.step(0.125);
        return new double[] {box.face(1, 1, 2), box.face(1, 2, 2), box.face(1, 3, 2)};
    }

    private static void hatAlongY() {
        CHECK.about("HAT at d = -1, 0 and 1, both sides (u across y, v across x: the middle is at + 0.5)");
        checkRow("y = 2.5", acrossU(2.5f), 0, 1, 0);
        checkRow("y just above 2.5", acrossU(Math.nextUp(2.5f)), 0, 1, 1);
        checkRow("y just below 2.5", acrossU(Math.nextDown(2.5f)), 1, 1, 0);
        checkRow("x = 2.5", acrossV(2.5f), 0, 1, 0);
        checkRow("x just above 2.5", acrossV(Math.nextUp(2.5f)), 0, 1, 1);
        checkRow("x just below 2.5", acrossV(Math.nextDown(2.5f)), 1, 1, 0);
    }

    /** A particle is on the face, another one beyond 1 from it: that one must add nothing, nor take anything away. */
    private static void hatBeyondOne() {
        CHECK.about("HAT(d) is else 0: beyond 1 and -1");
        for (int sign = -1; sign <= 1; sign += 2) {
            for (float far : new float[] {1 + 1f / 1024, 1.125f, 2.5f}) {
                WaterBox box = Boxes.withoutPressure();
                box.add(3, 2.5f, 0.5f, 0);
                box.add(3 + sign * far, 2.5f, 0.75f, 0);
                box.step(0.125);
                CHECK.same("u(3, 2), the other at " + sign * far, box.face(0, 3, 2), 0.5);
                WaterBox high = Boxes.withoutPressure();
                high.add(2.5f, 3, 0, 0.5f);
                high.add(2.5f, 3 + sign * far, 0, 0.75f);
                high.step(0.125);
                CHECK.same("v(2, 3), the other at " + sign * far, high.face(1, 2, 3), 0.5);
            }
        }
    }

    /** The other particle fills the next row with 2: a row's own value must come alone. */
    private static void samplingUBelowTheLowestRow() {
        CHECK.about("Sampling u: q is made at least 0");
        WaterBox box = Boxes.withoutPressure();
        box.share(0);
        box.add(2.5f, 0.0625f, 1, 0);
        box.add(2.5f, 1.5f, 2, 0);
        box.step(0.5);
        CHECK.same("u(2, 0)", box.face(0, 2, 0), 1);
        CHECK.same("u(2, 1)", box.face(0, 2, 1), 2);
        CHECK.same("a at y = 0.0625", box.particle(0, 2), 1);
        CHECK.same("x at y = 0.0625", box.particle(0, 0), 3);
        CHECK.same("a at y = 1.5", box.particle(1, 2), 2);
    }

    private static void samplingUAboveTheHighestRow() {
        CHECK.about("Sampling u: q is made at most 5, and j is at most 4");
        WaterBox box = Boxes.withoutPressure();
        box.share(0);
        box.add(2.5f, 5.9375f, 1, 0);
        box.add(2.5f, 4.5f, 2, 0);
        box.step(0.5);
        CHECK.same("u(2, 5)", box.face(0, 2, 5), 1);
        CHECK.same("u(2, 4)", box.face(0, 2, 4), 2);
        CHECK.same("a at y = 5.9375", box.particle(0, 2), 1);
        CHECK.same("x at y = 5.9375", box.particle(0, 0), 3);
        CHECK.same("a at y = 4.5", box.particle(1, 2), 2);
    }

    private static void samplingVOutsideTheColumns() {
        CHECK.about("Sampling v: p is made at least 0 and at most 5, and i is at most 4");
        for (int sign = -1; sign <= 1; sign += 2) {
            WaterBox box = Boxes.withoutPressure();
            box.share(0);
            box.add(3 + sign * 2.9375f, 2.5f, 0, 1);
            box.add(3 + sign * 1.5f, 2.5f, 0, 2);
            box.step(0.5);
            CHECK.same("v at the wall", box.face(1, sign < 0 ? 0 : 5, 2), 1);
            CHECK.same("v beside it", box.face(1, sign < 0 ? 1 : 4, 2), 2);
            CHECK.same("b at the wall", box.particle(0, 3), 1);
            CHECK.same("y at the wall", box.particle(0, 1), 3);
            CHECK.same("b beside it", box.particle(1, 3), 2);
        }
    }

    /*
     * The next four: the particle is 0.5 from a wall and goes to it with 8, its cell has diagonal 3 and right
     * side 8, so pressure 8 / 3. The half step comes to 1 behind the wall: there the face is 0, and beside it the
     * column (row) next to the wall comes alone: 7 / 12 of the way to -8 / 3.
     */
    private static final double ALONG_THE_WALL = 2.25 - 7.0 / 12 * 8 / 3;

    private static WaterBox toAWall(float x, float y, float a, float b) {
        WaterBox box = new WaterBox();
        box.pull(0);
        box.add(x, y, a, b);
        CHECK.same("rounds", box.step(1), 1);
        CHECK.near("pressure", box.pressure((int) x, (int) y), 8.0 / 3);
        return box;
    }

    private static void samplingURightOfTheBox() {
        CHECK.about("Sampling: p is made at most 6 (u) and 5 (v), i at most one less");
        WaterBox box = toAWall(5.5f, 2.25f, 8, 0);
        CHECK.same("x", box.particle(0, 0), 5.5);
        CHECK.near("y", box.particle(0, 1), ALONG_THE_WALL);
    }

    private static void samplingULeftOfTheBox() {
        CHECK.about("Sampling: p is made at least 0 (u and v)");
        WaterBox box = toAWall(0.5f, 2.25f, -8, 0);
        CHECK.same("x", box.particle(0, 0), 0.5);
        CHECK.near("y", box.particle(0, 1), ALONG_THE_WALL);
    }

    private static void samplingVAboveTheBox() {
        CHECK.about("Sampling: q is made at most 6 (v) and 5 (u), j at most one less");
        WaterBox box = toAWall(2.25f, 5.5f, 0, 8);
        CHECK.same("y", box.particle(0, 1), 5.5);
        CHECK.near("x", box.particle(0, 0), ALONG_THE_WALL);
    }

    private static void samplingVBelowTheBox() {
        CHECK.about("Sampling: q is made at least 0 (u and v)");
        WaterBox box = toAWall(2.25f, 0.5f, 0, -8);
        CHECK.same("y", box.particle(0, 1), 0.5);
        CHECK.near("x", box.particle(0, 0), ALONG_THE_WALL);
    }
}

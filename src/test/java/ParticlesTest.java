/** Promises 2, 3, 9, 13, 14 and 15: solid cells, particles, and what is said of them. */
public final class ParticlesTest {
    private static final Check CHECK = new Check("ParticlesTest");

    public static void main(String[] args) {
        solid();
        add();
        addAtMost24();
        particle();
        energyAndDrift();
        count();
        CHECK.end();
    }

    private static void solid() {
        WaterBox box = new WaterBox();
        CHECK.same("made solid", box.solid(0, 5, true), false);
        CHECK.same("again", box.solid(0, 5, true), true);
        CHECK.same("other way round is another cell", box.solid(5, 0, true), false);
        CHECK.same("made free", box.solid(0, 5, false), true);
        CHECK.same("free again", box.solid(0, 5, false), false);
        int[][] bad = {{-1, 0}, {0, -1}, {6, 0}, {0, 6}, {-1, 7}, {7, -1},
            {Integer.MAX_VALUE, 0}, {0, Integer.MIN_VALUE}, {1 << 30, 1 << 30}};
        for (int[] cell : bad) {
            String text = "solid(" + cell[0] + ", " + cell[1] + ")";
            CHECK.noSuch(text, () -> box.solid(cell[0], cell[1], true));
            CHECK.noSuch(text, () -> box.solid(cell[0], cell[1], false));
        }
        box.add(3.0f, Math.nextDown(3.0f), 0, 0);
        CHECK.badState("a particle is in it", () -> box.solid(3, 2, true));
        CHECK.same("not to be solid", box.solid(3, 2, false), false);
        CHECK.same("beside it", box.solid(2, 2, true), false);
        CHECK.same("above it", box.solid(3, 3, true), false);
    }

    private static void add() {
        WaterBox box = new WaterBox();
        float least = 0.0625f;
        float most = 5.9375f;
        CHECK.same("least", box.add(least, least, -8, -8), 0);
        CHECK.same("most", box.add(most, most, 8, 8), 1);
        float[] badPlaces = {Math.nextDown(least), Math.nextUp(most), 0, 6, -1, 20, Float.NaN,
            Float.POSITIVE_INFINITY, Float.NEGATIVE_INFINITY};
        for (float place : badPlaces) {
            CHECK.badArgument("x " + place, () -> box.add(place, 1, 0, 0));
            CHECK.badArgument("y " + place, () -> box.add(1, place, 0, 0));
        }
        float[] badSpeeds = {Math.nextUp(8.0f), Math.nextDown(-8.0f), 65, Float.NaN,
            Float.POSITIVE_INFINITY, Float.NEGATIVE_INFINITY};
        for (float speed : badSpeeds) {
            CHECK.badArgument("a " + speed, () -> box.add(1, 1, speed, 0));
            CHECK.badArgument("b " + speed, () -> box.add(1, 1, 0, speed));
        }
        box.solid(1, 2, true);
        CHECK.badArgument("in a solid cell", () -> box.add(1.5f, 2, 0, 0));
        CHECK.badArgument("at its end", () -> box.add(Math.nextDown(2.0f), Math.nextDown(3.0f), 0, 0));
        CHECK.same("refused ones are none", box.count(0), 2);
        CHECK.same("behind its end", box.add(2, 2.5f, 0, 0), 2);
        box.solid(1, 2, false);
        CHECK.same("free again", box.add(1.5f, 2, 0, 0), 3);
    }

    private static void addAtMost24() {
        WaterBox box = new WaterBox();
        box.solid(5, 5, true);
        for (int k = 0; k < 24; k++) {
            CHECK.same("number", box.add(1, 1, 0, 0), k);
        }
        CHECK.badState("the 25th", () -> box.add(1, 1, 0, 0));
        CHECK.badArgument("the 25th, wrong place", () -> box.add(0, 1, 0, 0));
        CHECK.badArgument("the 25th, wrong velocity", () -> box.add(1, 1, 0, 9));
        CHECK.badArgument("the 25th, solid cell", () -> box.add(5.5f, 5.5f, 0, 0));
        CHECK.same("still 24", box.count(0), 24);
        CHECK.same("the 24th", box.particle(23, 0), 1);
        CHECK.noSuch("the 25th", () -> box.particle(24, 0));
    }

    private static void particle() {
        WaterBox box = new WaterBox();
        box.add(1.1f, 2.2f, 3.3f, -4.4f);
        box.add(5.5f, 4.5f, -0.5f, 0.25f);
        float[][] due = {{1.1f, 2.2f, 3.3f, -4.4f}, {5.5f, 4.5f, -0.5f, 0.25f}};
        for (int k = 0; k < 2; k++) {
            for (int what = 0; what < 4; what++) {
                CHECK.same("particle(" + k + ", " + what + ")", box.particle(k, what), due[k][what]);
            }
        }
        int[][] bad = {{-1, 0}, {2, 0}, {0, -1}, {0, 4}, {24, 0}, {-1, -1},
            {Integer.MAX_VALUE, 0}, {Integer.MIN_VALUE, 0}, {0, Integer.MAX_VALUE}, {0, Integer.MIN_VALUE}};
        for (int[] pair : bad) {
            CHECK.noSuch("particle(" + pair[0] + ", " + pair[1] + ")", () -> box.particle(pair[0], pair[1]));
        }
    }

    private static void energyAndDrift() {
        WaterBox box = new WaterBox();
        CHECK.same("energy of none", box.energy(), 0);
        CHECK.same("drift of none", box.drift(0), 0);
        CHECK.same("drift of none", box.drift(1), 0);
        box.add(1, 1, 3, 4);
        CHECK.same("energy of one", box.energy(), 12.5);
        box.add(2, 1, 0.1f, -0.7f);
        box.add(3, 1, 0.2f, -1.3f);
        double energy = 12.5;
        energy += 0.5 * ((double) 0.1f * 0.1f + (double) 0.7f * 0.7f);
        energy += 0.5 * ((double) 0.2f * 0.2f + (double) 1.3f * 1.3f);
        CHECK.same("energy in doubles", box.energy(), energy);
        CHECK.same("drift(0) in floats", box.drift(0), (3 + 0.1f + 0.2f) / 3.0f);
        float upward = (4 - 0.7f - 1.3f) / 3.0f;
        for (int axis : new int[] {1, 2, -1, Integer.MAX_VALUE, Integer.MIN_VALUE}) {
            CHECK.same("drift(" + axis + ") in floats", box.drift(axis), upward);
        }
    }

    private static void count() {
        WaterBox box = new WaterBox();
        box.add(1.25f, 1.25f, 0, 0);
        box.add(1.75f, 1.75f, 0, 0);
        box.add(2.0f, 1.75f, 0, 0);
        CHECK.same("particles", box.count(0), 3);
        CHECK.same("fluid cells", box.count(1), 2);
        CHECK.same("done", box.count(2), 0);
        CHECK.same("failed", box.count(3), 0);
        for (int what : new int[] {-1, 4, 5, Integer.MAX_VALUE, Integer.MIN_VALUE}) {
            CHECK.same("count(" + what + ")", box.count(what), WaterBox.NONE);
        }
        box.step(0.125);
        CHECK.same("done", box.count(2), 1);
        CHECK.badArgument("step(0)", () -> box.step(0));
        CHECK.same("a refused one is not done", box.count(2), 1);
        CHECK.same("a refused one did not fail", box.count(3), 0);
        for (int i = 0; i < 6; i++) {
            box.add(i + 0.5f, 5.5f, 0, 0);
        }
        CHECK.same("fluid cells there would be", box.count(1), 8);
    }
}

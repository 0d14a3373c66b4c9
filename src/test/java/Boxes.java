/** Boxes that several tests use. */
final class Boxes {
    /** From the top: solid '#', with a particle 'o', air '.'. */
    private static final String[] CELLS_AT_FIRST = {
        "#o#ooo",
        "#ooo#o",
        "o##oo#",
        "ooo#oo",
        "o#.ooo",
        "oo##oo"};
    private static final String[] CELLS_AT_FINEST = {
        "#oooo#",
        "oooooo",
        "ooo#o#",
        "oo##oo",
        "#o#o#.",
        "#oooo#"};
    /** Of each particle: cell i, j, and velocity a, b; it is in the middle of its cell. */
    private static final int[][] DROPS_AT_FIRST = {
        {5, 2, -5, -1}, {5, 0, 7, -7}, {3, 3, 3, 8}, {4, 3, -6, -7}, {1, 0, -3, 2}, {1, 2, 8, -4},
        {1, 5, -3, -3}, {4, 2, -6, -8}, {4, 1, 5, -6}, {1, 4, 3, 0}, {4, 0, 7, -7}, {0, 3, -7, -4},
        {0, 0, 1, 0}, {5, 4, 1, -2}, {5, 5, -7, 6}, {0, 1, -2, 3}, {2, 4, 1, -6}, {3, 1, -1, 1},
        {3, 4, 8, -5}, {3, 5, -1, -7}, {4, 5, -4, -6}, {2, 2, 3, -1}, {0, 2, 2, -7}, {5, 1, -5, -8}};
    private static final int[][] DROPS_AT_FINEST = {
        {5, 4, -8, 3}, {1, 2, 4, -8}, {1, 0, -3, 4}, {2, 0, 4, 5}, {1, 3, -6, 4}, {0, 2, 7, -8},
        {2, 3, -1, 7}, {1, 1, -1, 3}, {0, 3, -5, -8}, {4, 5, -6, -8}, {5, 2, 4, -6}, {1, 5, -7, 2},
        {0, 4, 8, 4}, {4, 0, -7, -8}, {2, 4, -8, -8}, {3, 0, 0, 1}, {3, 4, 5, 7}, {4, 2, 1, 2},
        {2, 5, -6, -6}, {3, 1, -1, 0}, {1, 4, 7, -1}, {4, 3, -4, 6}, {4, 4, -6, 3}, {3, 5, 7, 6}};

    private Boxes() {
    }

    /** One particle at rest on the floor: the right side of its cell is t, as the pull is -1. */
    static WaterBox onTheFloor() {
        WaterBox box = new WaterBox();
        box.add(2.5f, 0.5f, 0, 0);
        return box;
    }

    /** No pull, a limit of 1 and no rounds: where the right sides are at most 1, no pressure comes in. */
    static WaterBox withoutPressure() {
        WaterBox box = new WaterBox();
        box.pull(0);
        box.solver(0, 0);
        return box;
    }

    /** Some of everything: solid cells, settings, a mark, a step that was done and one that failed. */
    static WaterBox lived() {
        WaterBox box = new WaterBox();
        box.solid(4, 0, true);
        box.solid(0, 3, true);
        box.add(2.5f, 0.5f, 0.5f, -1);
        box.add(3.25f, 0.75f, -1, 0.25f);
        box.back(true);
        box.add(2.75f, 1.5f, 1, 2);
        box.add(3.5f, 1.25f, 1.5f, -2);
        box.pull(-2);
        box.share(0.75f);
        box.solver(20, 30);
        box.step(0.0625);
        box.solver(30, 1);
        try {
            box.step(1);
        } catch (IllegalStateException e) {
            box.solver(20, 30);
        }
        return box;
    }

    /** With 24 particles, each in a cell of its own, from the lowest cells on. */
    static WaterBox full() {
        WaterBox box = new WaterBox();
        for (int k = 0; k < 24; k++) {
            box.add(k % 6 + 0.5f, k / 6 + 0.5f, k % 5 - 2, k % 7 - 3);
        }
        return box;
    }

    /** A step(1) of it needs 13 rounds at the first settings: the most that a search found. */
    static void longAtFirst(WaterBox box) {
        fill(box, CELLS_AT_FIRST, DROPS_AT_FIRST);
    }

    /** A step(1) of it needs 19 rounds at the limit of k = 30: the most that a search found. */
    static void longAtFinest(WaterBox box) {
        fill(box, CELLS_AT_FINEST, DROPS_AT_FINEST);
    }

    private static void fill(WaterBox box, String[] cells, int[][] drops) {
        for (int cell = 0; cell < 36; cell++) {
            if (cells[5 - cell / 6].charAt(cell % 6) == '#') {
                box.solid(cell % 6, cell / 6, true);
            }
        }
        for (int[] drop : drops) {
            box.add(drop[0] + 0.5f, drop[1] + 0.5f, drop[2], drop[3]);
        }
    }
}

/**
 * Water in a box of 6 by 6 cells: particles carry it, a grid of faces is made
 * free of divergence in every step, and the particles move with it.
 */
public final class WaterBox {
    /** Nothing there. */
    public static final int NONE = -1;

    private static final int SIDE = 6;
    private static final int CELLS = 36;
    /** Faces lie in rows of seven for both axes, so that one index rule serves u and v. */
    private static final int FACE_ROW = 7;
    private static final int FACES = 49;
    private static final int MOST_PARTICLES = 24;
    private static final int MOST_ROUNDS = 40;
    private static final int MOST_HALVINGS = 30;

    private final State now = new State();
    private final State marked = new State();
    private final Faces oldU = new Faces(0);
    private final Faces oldV = new Faces(1);
    private final Faces newU = new Faces(0);
    private final Faces newV = new Faces(1);
    private final Solver system = new Solver();
    private final Result latest = new Result();
    private int stepsDone = 0;
    private int stepsFailed = 0;

    /** No particles, no solid cells. */
    public WaterBox() {
    }

    /** Makes a cell solid, or not: whether it was solid before. */
    public boolean solid(int i, int j, boolean is) throws IndexOutOfBoundsException, IllegalStateException {
        if (!isCell(i, j)) {
            throw new IndexOutOfBoundsException("no such cell");
        }
        if (is && now.hasParticleIn(i, j)) {
            throw new IllegalStateException("a particle is in the cell");
        }
        boolean before = now.isSolid(i, j);
        now.solids[cellIndex(i, j)] = is;
        return before;
    }

    /** A new particle: its number. */
    public int add(float x, float y, float a, float b) throws IllegalArgumentException, IllegalStateException {
        if (!isPlace(x) || !isPlace(y) || !isSpeed(a) || !isSpeed(b)) {
            throw new IllegalArgumentException("no such place or velocity");
        }
        if (now.isSolid((int) x, (int) y)) {
            throw new IllegalArgumentException("the cell is solid");
        }
        if (now.particles >= MOST_PARTICLES) {
            throw new IllegalStateException("there are 24 particles");
        }
        int k = now.particles;
        now.x[k] = x;
        now.y[k] = y;
        now.a[k] = a;
        now.b[k] = b;
        now.particles = k + 1;
        return k;
    }

    /** Sets the pull: what it was. */
    public double pull(double g) throws IllegalArgumentException {
        if (!(g >= -4.0 && g <= 4.0)) {
            throw new IllegalArgumentException("the pull is not -4 .. 4");
        }
        double before = now.pull;
        now.pull = g;
        return before;
    }

    /** Sets the share: what it was. */
    public float share(float f) throws IllegalArgumentException {
        if (!(f >= 0.0f && f <= 1.0f)) {
            throw new IllegalArgumentException("the share is not 0 .. 1");
        }
        float before = now.share;
        now.share = f;
        return before;
    }

    /** Sets the limit to 1 / 2^k and the rounds: the new limit. */
    public double solver(int k, int rounds) throws IllegalArgumentException {
        if (k < 0 || k > MOST_HALVINGS) {
            throw new IllegalArgumentException("k is not 0 .. 30");
        }
        if (rounds < 0 || rounds > MOST_ROUNDS) {
            throw new IllegalArgumentException("the rounds are not 0 .. 40");
        }
        now.limit = 1.0 / (double) (1 << k);
        now.rounds = rounds;
        return now.limit;
    }

    /** A step of t: how many rounds the solver made. */
    public int step(double t) throws IllegalArgumentException, IllegalStateException {
        if (!(t > 0.0 && t <= 1.0)) {
            throw new IllegalArgumentException("t is not above 0 and at most 1");
        }
        buildGrids(t);
        system.setUp(now, newU, newV);
        int rounds = system.findPressure(now.limit, now.rounds);
        if (rounds == NONE) {
            stepsFailed++;
            throw new IllegalStateException("the solver failed");
        }
        newU.applyPressure(now, system);
        newV.applyPressure(now, system);
        for (int k = 0; k < now.particles; k++) {
            renewVelocity(k);
        }
        for (int k = 0; k < now.particles; k++) {
            moveParticle(k, t);
        }
        latest.keep(newU, newV, system);
        stepsDone++;
        return rounds;
    }

    /** Marks all as it is now (false), or brings the latest mark back (true). */
    public boolean back(boolean mark) {
        if (mark) {
            marked.takeFrom(now);
            return false;
        }
        now.takeFrom(marked);
        return true;
    }

    /** Of particle k: x (0), y (1), a (2), b (3). */
    public float particle(int k, int what) throws IndexOutOfBoundsException {
        if (k < 0 || k >= now.particles) {
            throw new IndexOutOfBoundsException("no such particle");
        }
        switch (what) {
            case 0:
                return now.x[k];
            case 1:
                return now.y[k];
            case 2:
                return now.a[k];
            case 3:
                return now.b[k];
            default:
                throw new IndexOutOfBoundsException("no such number of a particle");
        }
    }

    /** The pressure of a cell in the latest step that was done. */
    public double pressure(int i, int j) throws IndexOutOfBoundsException {
        if (!isCell(i, j)) {
            throw new IndexOutOfBoundsException("no such cell");
        }
        return latest.pressures[cellIndex(i, j)];
    }

    /** u(i, j) (axis 0) or v(i, j) (axis 1) after the latest step that was done. */
    public double face(int axis, int i, int j) throws IndexOutOfBoundsException {
        if (axis != 0 && axis != 1) {
            throw new IndexOutOfBoundsException("no such axis");
        }
        Faces faces = axis == 0 ? latest.u : latest.v;
        if (!faces.isFace(i, j)) {
            throw new IndexOutOfBoundsException("no such face");
        }
        return faces.values[faceIndex(i, j)];
    }

    /** The greatest amount that the solver left over in the latest step that was done. */
    public double rest() {
        return latest.leftOver;
    }

    /** The energy of motion of all particles. */
    public double energy() {
        double sum = 0.0;
        for (int k = 0; k < now.particles; k++) {
            double a = now.a[k];
            double b = now.b[k];
            sum = sum + 0.5 * (a * a + b * b);
        }
        return sum;
    }

    /** The mean of a (axis 0) or b (any other axis) over all particles. */
    public float drift(int axis) {
        if (now.particles == 0) {
            return 0.0f;
        }
        float[] speeds = axis == 0 ? now.a : now.b;
        float sum = 0.0f;
        for (int k = 0; k < now.particles; k++) {
            sum = sum + speeds[k];
        }
        return sum / (float) now.particles;
    }

    /** Particles (0), fluid cells (1), steps done (2) and failed (3), else NONE. */
    public int count(int what) {
        switch (what) {
            case 0:
                return now.particles;
            case 1:
                return now.fluidCells();
            case 2:
                return stepsDone;
            case 3:
                return stepsFailed;
            default:
                return NONE;
        }
    }

    /** Points 2 and 3 of a step. */
    private void buildGrids(double t) {
        oldU.gather(now, now.a);
        oldV.gather(now, now.b);
        newU.takeFrom(oldU);
        newV.takeFrom(oldV);
        newV.addToAll(t * now.pull);
        newU.closeFaces(now);
        newV.closeFaces(now);
    }

    /** Point 6 of a step. */
    private void renewVelocity(int k) {
        float x = now.x[k];
        float y = now.y[k];
        now.a[k] = blend(now.a[k], oldU.sample(x, y), newU.sample(x, y));
        now.b[k] = blend(now.b[k], oldV.sample(x, y), newV.sample(x, y));
    }

    private float blend(float speed, double before, double after) {
        float share = now.share;
        float blended = share * (speed + (float) (after - before)) + (1.0f - share) * (float) after;
        if (blended < -8.0f) {
            return -8.0f;
        }
        return blended > 8.0f ? 8.0f : blended;
    }

    /** Point 7 of a step. */
    private void moveParticle(int k, double t) {
        float x = now.x[k];
        float y = now.y[k];
        double midX = x + 0.5 * t * newU.sample(x, y);
        double midY = y + 0.5 * t * newV.sample(x, y);
        float toX = (float) (x + t * newU.sample(midX, midY));
        float toY = (float) (y + t * newV.sample(midX, midY));
        float heldX = holdInBox(toX);
        float heldY = holdInBox(toY);
        if (now.isSolid((int) heldX, (int) heldY)) {
            now.a[k] = 0.0f;
            now.b[k] = 0.0f;
            return;
        }
        if (heldX != toX) {
            now.a[k] = -now.a[k] * 0.5f;
        }
        if (heldY != toY) {
            now.b[k] = -now.b[k] * 0.5f;
        }
        now.x[k] = heldX;
        now.y[k] = heldY;
    }

    private static float holdInBox(float place) {
        if (place < 0.0625f) {
            return 0.0625f;
        }
        return place > 5.9375f ? 5.9375f : place;
    }

    private static boolean isPlace(float place) {
        return place >= 0.0625f && place <= 5.9375f;
    }

    private static boolean isSpeed(float speed) {
        return speed >= -8.0f && speed <= 8.0f;
    }

    private static boolean isCell(int i, int j) {
        return i >= 0 && i < SIDE && j >= 0 && j < SIDE;
    }

    private static int cellIndex(int i, int j) {
        return j * SIDE + i;
    }

    private static int faceIndex(int i, int j) {
        return j * FACE_ROW + i;
    }

    /** All that a mark keeps: settings, solid cells and particles. */
    private static final class State {
        double pull = -1.0;
        float share = 0.5f;
        double limit = 0.125;
        int rounds = 20;
        final boolean[] solids = new boolean[CELLS];
        int particles = 0;
        final float[] x = new float[MOST_PARTICLES];
        final float[] y = new float[MOST_PARTICLES];
        final float[] a = new float[MOST_PARTICLES];
        final float[] b = new float[MOST_PARTICLES];

        void takeFrom(State other) {
            pull = other.pull;
            share = other.share;
            limit = other.limit;
            rounds = other.rounds;
            for (int at = 0; at < CELLS; at++) {
                solids[at] = other.solids[at];
            }
            particles = other.particles;
            System.arraycopy(other.x, 0, x, 0, MOST_PARTICLES);
            System.arraycopy(other.y, 0, y, 0, MOST_PARTICLES);
            System.arraycopy(other.a, 0, a, 0, MOST_PARTICLES);
            System.arraycopy(other.b, 0, b, 0, MOST_PARTICLES);
        }

        /** All around the box is solid too. */
        boolean isSolid(int i, int j) {
            return !isCell(i, j) || solids[cellIndex(i, j)];
        }

        boolean hasParticleIn(int i, int j) {
            for (int k = 0; k < particles; k++) {
                if ((int) x[k] == i && (int) y[k] == j) {
                    return true;
                }
            }
            return false;
        }

        boolean isFluid(int i, int j) {
            return !isSolid(i, j) && hasParticleIn(i, j);
        }

        int fluidCells() {
            int found = 0;
            for (int j = 0; j < SIDE; j++) {
                for (int i = 0; i < SIDE; i++) {
                    if (isFluid(i, j)) {
                        found++;
                    }
                }
            }
            return found;
        }

        int openNeighbours(int i, int j) {
            int open = 0;
            if (!isSolid(i - 1, j)) {
                open++;
            }
            if (!isSolid(i + 1, j)) {
                open++;
            }
            if (!isSolid(i, j - 1)) {
                open++;
            }
            if (!isSolid(i, j + 1)) {
                open++;
            }
            return open;
        }
    }

    /** The faces of one axis: u (axis 0) or v (axis 1). */
    private static final class Faces {
        /** From a face's upper cell, which bears its numbers, to its lower one. */
        final int backI;
        final int backJ;
        final int lastI;
        final int lastJ;
        /** Where the middle of face (0, 0) is. */
        final double middleX;
        final double middleY;
        final double[] values = new double[FACES];

        Faces(int axis) {
            boolean isU = axis == 0;
            backI = isU ? 1 : 0;
            backJ = isU ? 0 : 1;
            lastI = isU ? SIDE : SIDE - 1;
            lastJ = isU ? SIDE - 1 : SIDE;
            middleX = isU ? 0.0 : 0.5;
            middleY = isU ? 0.5 : 0.0;
        }

        boolean isFace(int i, int j) {
            return i >= 0 && i <= lastI && j >= 0 && j <= lastJ;
        }

        void takeFrom(Faces other) {
            System.arraycopy(other.values, 0, values, 0, FACES);
        }

        void gather(State state, float[] speeds) {
            for (int j = 0; j <= lastJ; j++) {
                for (int i = 0; i <= lastI; i++) {
                    values[faceIndex(i, j)] = gathered(state, speeds, i + middleX, j + middleY);
                }
            }
        }

        private static double gathered(State state, float[] speeds, double atX, double atY) {
            double n = 0.0;
            double m = 0.0;
            for (int particle = 0; particle < state.particles; particle++) {
                double k = hat(state.x[particle] - atX) * hat(state.y[particle] - atY);
                n = n + k * speeds[particle];
                m = m + k;
            }
            return m > 0.0 ? n / m : 0.0;
        }

        private static double hat(double d) {
            if (d >= 0.0 && d < 1.0) {
                return 1.0 - d;
            }
            return d > -1.0 && d < 0.0 ? 1.0 + d : 0.0;
        }

        void addToAll(double more) {
            for (int j = 0; j <= lastJ; j++) {
                for (int i = 0; i <= lastI; i++) {
                    int at = faceIndex(i, j);
                    values[at] = values[at] + more;
                }
            }
        }

        void closeFaces(State state) {
            for (int j = 0; j <= lastJ; j++) {
                for (int i = 0; i <= lastI; i++) {
                    if (isClosed(state, i, j)) {
                        values[faceIndex(i, j)] = 0.0;
                    }
                }
            }
        }

        private boolean isClosed(State state, int i, int j) {
            return state.isSolid(i, j) || state.isSolid(i - backI, j - backJ);
        }

        /** Point 5 of a step; a fluid cell at an open face always takes part. */
        void applyPressure(State state, Solver system) {
            for (int j = 0; j <= lastJ; j++) {
                for (int i = 0; i <= lastI; i++) {
                    boolean wet = system.isPart(i, j) || system.isPart(i - backI, j - backJ);
                    if (wet && !isClosed(state, i, j)) {
                        double lower = system.pressureAt(i - backI, j - backJ);
                        int at = faceIndex(i, j);
                        values[at] = values[at] - (system.pressureAt(i, j) - lower);
                    }
                }
            }
        }

        double sample(double x, double y) {
            double p = hold(x - middleX, lastI);
            double q = hold(y - middleY, lastJ);
            int i = Math.min((int) p, lastI - 1);
            int j = Math.min((int) q, lastJ - 1);
            double f = p - i;
            double g = q - j;
            int at = faceIndex(i, j);
            int above = faceIndex(i, j + 1);
            return (1.0 - g) * ((1.0 - f) * values[at] + f * values[at + 1])
                + g * ((1.0 - f) * values[above] + f * values[above + 1]);
        }

        private static double hold(double place, int last) {
            if (place < 0.0) {
                return 0.0;
            }
            return place > last ? last : place;
        }
    }

    /** The pressure's equations, and the rows of numbers that solving them needs. */
    private static final class Solver {
        final boolean[] parts = new boolean[CELLS];
        final double[] diagonal = new double[CELLS];
        final double[] maker = new double[CELLS];
        final double[] p = new double[CELLS];
        final double[] r = new double[CELLS];
        final double[] h = new double[CELLS];
        final double[] z = new double[CELLS];
        final double[] s = new double[CELLS];

        boolean isPart(int i, int j) {
            return isCell(i, j) && parts[cellIndex(i, j)];
        }

        double pressureAt(int i, int j) {
            return isCell(i, j) ? p[cellIndex(i, j)] : 0.0;
        }

        /** Rows are set to 0 everywhere first: cells that take no part keep that. */
        void setUp(State state, Faces u, Faces v) {
            for (int at = 0; at < CELLS; at++) {
                parts[at] = false;
                diagonal[at] = 0.0;
                maker[at] = 0.0;
                p[at] = 0.0;
                r[at] = 0.0;
                h[at] = 0.0;
                z[at] = 0.0;
                s[at] = 0.0;
            }
            for (int j = 0; j < SIDE; j++) {
                for (int i = 0; i < SIDE; i++) {
                    setUpCell(state, u, v, i, j);
                }
            }
        }

        private void setUpCell(State state, Faces u, Faces v, int i, int j) {
            int open = state.openNeighbours(i, j);
            if (open == 0 || !state.isFluid(i, j)) {
                return;
            }
            int at = cellIndex(i, j);
            parts[at] = true;
            diagonal[at] = open;
            maker[at] = makerOf(i, j);
            r[at] = 0.0 - (u.values[faceIndex(i + 1, j)] - u.values[faceIndex(i, j)]
                + v.values[faceIndex(i, j + 1)] - v.values[faceIndex(i, j)]);
        }

        /** The left and the lower cell have theirs already: cells come in the order of j, then i. */
        private double makerOf(int i, int j) {
            double whole = diagonal[cellIndex(i, j)];
            double e = whole;
            if (isPart(i - 1, j)) {
                e = e - 1.0 / maker[cellIndex(i - 1, j)];
            }
            if (isPart(i, j - 1)) {
                e = e - 1.0 / maker[cellIndex(i, j - 1)];
            }
            return e < 0.25 * whole ? whole : e;
        }

        /** Finds p: how many rounds it took, or NONE when it fails. */
        int findPressure(double limit, int rounds) {
            if (greatestLeft() <= limit) {
                return 0;
            }
            makeZ();
            System.arraycopy(z, 0, s, 0, CELLS);
            double c = product(z, r);
            for (int round = 1; round <= rounds; round++) {
                if (!(c > 0.0)) {
                    return NONE;
                }
                multiplyS();
                double d = product(z, s);
                if (!(d > c * 0.0009765625)) {
                    return NONE;
                }
                advance(c / d);
                if (greatestLeft() <= limit) {
                    return round;
                }
                makeZ();
                double c2 = product(z, r);
                turn(c2 / c);
                c = c2;
            }
            return NONE;
        }

        double greatestLeft() {
            double greatest = 0.0;
            for (int at = 0; at < CELLS; at++) {
                double amount = r[at] < 0.0 ? -r[at] : r[at];
                if (amount > greatest) {
                    greatest = amount;
                }
            }
            return greatest;
        }

        private static double product(double[] one, double[] other) {
            double sum = 0.0;
            for (int j = 0; j < SIDE; j++) {
                double rowSum = 0.0;
                for (int i = 0; i < SIDE; i++) {
                    int at = cellIndex(i, j);
                    rowSum = rowSum + one[at] * other[at];
                }
                sum = sum + rowSum;
            }
            return sum;
        }

        private void advance(double k) {
            for (int at = 0; at < CELLS; at++) {
                p[at] = p[at] + k * s[at];
                r[at] = r[at] - k * z[at];
            }
        }

        private void turn(double k) {
            for (int at = 0; at < CELLS; at++) {
                s[at] = z[at] + k * s[at];
            }
        }

        /** z becomes the matrix times s. */
        private void multiplyS() {
            for (int j = 0; j < SIDE; j++) {
                for (int i = 0; i < SIDE; i++) {
                    if (isPart(i, j)) {
                        z[cellIndex(i, j)] = matrixTimesS(i, j);
                    }
                }
            }
        }

        private double matrixTimesS(int i, int j) {
            int at = cellIndex(i, j);
            double sum = diagonal[at] * s[at];
            if (isPart(i - 1, j)) {
                sum = sum - s[cellIndex(i - 1, j)];
            }
            if (isPart(i + 1, j)) {
                sum = sum - s[cellIndex(i + 1, j)];
            }
            if (isPart(i, j - 1)) {
                sum = sum - s[cellIndex(i, j - 1)];
            }
            if (isPart(i, j + 1)) {
                sum = sum - s[cellIndex(i, j + 1)];
            }
            return sum;
        }

        /** MAKING z from r. */
        private void makeZ() {
            for (int j = 0; j < SIDE; j++) {
                for (int i = 0; i < SIDE; i++) {
                    if (isPart(i, j)) {
                        h[cellIndex(i, j)] = forward(i, j);
                    }
                }
            }
            for (int j = SIDE - 1; j >= 0; j--) {
                for (int i = SIDE - 1; i >= 0; i--) {
                    if (isPart(i, j)) {
                        z[cellIndex(i, j)] = backward(i, j);
                    }
                }
            }
        }

        private double forward(int i, int j) {
            double sum = r[cellIndex(i, j)];
            if (isPart(i - 1, j)) {
                int left = cellIndex(i - 1, j);
                sum = sum + h[left] / maker[left];
            }
            if (isPart(i, j - 1)) {
                int lower = cellIndex(i, j - 1);
                sum = sum + h[lower] / maker[lower];
            }
            return sum;
        }

        /** Makers are above 0 in all cells that take part, by the 0.25 in makerOf. */
        private double backward(int i, int j) {
            int at = cellIndex(i, j);
            double sum = h[at] / maker[at];
            if (isPart(i + 1, j)) {
                sum = sum + z[cellIndex(i + 1, j)] / maker[at];
            }
            if (isPart(i, j + 1)) {
                sum = sum + z[cellIndex(i, j + 1)] / maker[at];
            }
            return sum;
        }
    }

    /** What the latest step that was done left, apart from the working rows, which a failing step spoils. */
    private static final class Result {
        final Faces u = new Faces(0);
        final Faces v = new Faces(1);
        final double[] pressures = new double[CELLS];
        double leftOver = 0.0;

        void keep(Faces newU, Faces newV, Solver system) {
            u.takeFrom(newU);
            v.takeFrom(newV);
            System.arraycopy(system.p, 0, pressures, 0, CELLS);
            leftOver = system.greatestLeft();
        }
    }
}

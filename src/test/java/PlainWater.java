import java.util.ArrayList;
import java.util.List;

/**
 * A second writing of the document, for comparison only. It is kept unlike the
 * program on purpose: cells and faces have a rim of solid cells (index + 1) in
 * arrays of two dimensions, particles are objects, and a step makes all anew.
 */
final class PlainWater {
    private static final class Drop {
        float x, y, a, b;

        Drop copy() {
            Drop other = new Drop();
            other.x = x;
            other.y = y;
            other.a = a;
            other.b = b;
            return other;
        }

        boolean in(int i, int j) {
            return (int) Math.floor(x) == i && (int) Math.floor(y) == j;
        }
    }

    private static final class Kept {
        double pull = -1, limit = 1.0 / 8;
        float share = 1f / 2;
        int rounds = 20;
        boolean[][] solid = new boolean[6][6];
        List<Drop> drops = new ArrayList<>();

        Kept copy() {
            Kept other = new Kept();
            other.pull = pull;
            other.limit = limit;
            other.share = share;
            other.rounds = rounds;
            for (int i = 0; i < 6; i++) {
                other.solid[i] = solid[i].clone();
            }
            for (Drop drop : drops) {
                other.drops.add(drop.copy());
            }
            return other;
        }
    }

    private Kept now = new Kept();
    private Kept mark = new Kept();
    private int done, failed;
    private double[][] lastP = new double[8][8], lastU = new double[7][6], lastV = new double[6][7];
    private double lastRest;

    private static boolean outside(int i, int least, int most) {
        return i < least || i > most;
    }

    boolean solid(int i, int j, boolean is) {
        if (outside(i, 0, 5) || outside(j, 0, 5)) {
            throw new IndexOutOfBoundsException();
        }
        for (Drop drop : now.drops) {
            if (is && drop.in(i, j)) {
                throw new IllegalStateException();
            }
        }
        boolean was = now.solid[i][j];
        now.solid[i][j] = is;
        return was;
    }

    int add(float x, float y, float a, float b) {
        boolean fine = Math.abs(x - 3.0) <= 2.9375 && Math.abs(y - 3.0) <= 2.9375
            && Math.abs(a) <= 8 && Math.abs(b) <= 8;
        if (!fine || now.solid[(int) x][(int) y]) {
            throw new IllegalArgumentException();
        }
        if (now.drops.size() == 24) {
            throw new IllegalStateException();
        }
        Drop drop = new Drop();
        drop.x = x;
        drop.y = y;
        drop.a = a;
        drop.b = b;
        now.drops.add(drop);
        return now.drops.size() - 1;
    }

    double pull(double g) {
        if (!(Math.abs(g) <= 4)) {
            throw new IllegalArgumentException();
        }
        double was = now.pull;
        now.pull = g;
        return was;
    }

    float share(float f) {
        if (!(Math.abs(f - 0.5) <= 0.5)) {
            throw new IllegalArgumentException();
        }
        float was = now.share;
        now.share = f;
        return was;
    }

    double solver(int k, int rounds) {
        if (outside(k, 0, 30) || outside(rounds, 0, 40)) {
            throw new IllegalArgumentException();
        }
        now.rounds = rounds;
        return now.limit = Math.pow(2, -k);
    }

    boolean back(boolean toMark) {
        if (toMark) {
            mark = now.copy();
        } else {
            now = mark.copy();
        }
        return !toMark;
    }

    float particle(int k, int what) {
        if (outside(k, 0, now.drops.size() - 1) || outside(what, 0, 3)) {
            throw new IndexOutOfBoundsException();
        }
        Drop drop = now.drops.get(k);
        return new float[] {drop.x, drop.y, drop.a, drop.b}[what];
    }

    double pressure(int i, int j) {
        if (outside(i, 0, 5) || outside(j, 0, 5)) {
            throw new IndexOutOfBoundsException();
        }
        return lastP[i + 1][j + 1];
    }

    double face(int axis, int i, int j) {
        if (outside(axis, 0, 1)) {
            throw new IndexOutOfBoundsException();
        }
        double[][] w = axis == 0 ? lastU : lastV;
        if (outside(i, 0, w.length - 1) || outside(j, 0, w[0].length - 1)) {
            throw new IndexOutOfBoundsException();
        }
        return w[i][j];
    }

    double rest() {
        return lastRest;
    }

    double energy() {
        double sum = 0;
        for (Drop drop : now.drops) {
            sum += 0.5 * ((double) drop.a * (double) drop.a + (double) drop.b * (double) drop.b);
        }
        return sum;
    }

    float drift(int axis) {
        float sum = 0;
        for (Drop drop : now.drops) {
            sum += axis == 0 ? drop.a : drop.b;
        }
        return now.drops.isEmpty() ? 0 : sum / now.drops.size();
    }

    int count(int what) {
        int[] counts = {now.drops.size(), 0, done, failed};
        for (int cell = 0; cell < 36; cell++) {
            counts[1] += wet(cell / 6, cell % 6) ? 1 : 0;
        }
        return outside(what, 0, 3) ? -1 : counts[what];
    }

    private boolean wet(int i, int j) {
        for (Drop drop : now.drops) {
            if (drop.in(i, j)) {
                return true;
            }
        }
        return false;
    }

    private boolean hard(int i, int j) {
        return outside(i, 0, 5) || outside(j, 0, 5) || now.solid[i][j];
    }

    private static double hat(double d) {
        return Math.abs(d) < 1 ? 1 - Math.abs(d) : 0;
    }

    private double[][] gather(boolean forU) {
        double[][] w = new double[forU ? 7 : 6][forU ? 6 : 7];
        for (int i = 0; i < w.length; i++) {
            for (int j = 0; j < w[0].length; j++) {
                double n = 0, m = 0;
                for (Drop drop : now.drops) {
                    double k = forU
                        ? hat((double) drop.x - i) * hat(drop.y - (j + 0.5))
                        : hat(drop.x - (i + 0.5)) * hat((double) drop.y - j);
                    n += k * (forU ? drop.a : drop.b);
                    m += k;
                }
                w[i][j] = m > 0 ? n / m : 0;
            }
        }
        return w;
    }

    private static double sample(double[][] w, double x, double y) {
        boolean forU = w.length == 7;
        double p = Math.min(Math.max(forU ? x : x - 0.5, 0), forU ? 6 : 5);
        double q = Math.min(Math.max(forU ? y - 0.5 : y, 0), forU ? 5 : 6);
        int i = Math.min((int) p, forU ? 5 : 4);
        int j = Math.min((int) q, forU ? 4 : 5);
        double f = p - i, g = q - j;
        double lower = (1 - f) * w[i][j] + f * w[i + 1][j];
        double upper = (1 - f) * w[i][j + 1] + f * w[i + 1][j + 1];
        return (1 - g) * lower + g * upper;
    }

    int step(double t) {
        if (!(t > 0) || t > 1) {
            throw new IllegalArgumentException();
        }
        double[][] oldU = gather(true), oldV = gather(false);
        double[][] u = gather(true), v = gather(false);
        for (int i = 0; i < 7; i++) {
            for (int j = 0; j < 7; j++) {
                if (j < 6 && (hard(i - 1, j) || hard(i, j))) {
                    u[i][j] = 0;
                }
                if (i < 6) {
                    v[i][j] = hard(i, j - 1) || hard(i, j) ? 0 : v[i][j] + t * now.pull;
                }
            }
        }
        double[][] p = new double[8][8], r = new double[8][8];
        int rounds = solve(u, v, p, r);
        if (rounds < 0) {
            failed++;
            throw new IllegalStateException();
        }
        for (int i = 0; i < 7; i++) {
            for (int j = 0; j < 7; j++) {
                if (j < 6 && !hard(i - 1, j) && !hard(i, j) && (wet(i - 1, j) || wet(i, j))) {
                    u[i][j] -= p[i + 1][j + 1] - p[i][j + 1];
                }
                if (i < 6 && !hard(i, j - 1) && !hard(i, j) && (wet(i, j - 1) || wet(i, j))) {
                    v[i][j] -= p[i + 1][j + 1] - p[i + 1][j];
                }
            }
        }
        for (Drop drop : now.drops) {
            drop.a = mixed(drop.a, sample(oldU, drop.x, drop.y), sample(u, drop.x, drop.y));
            drop.b = mixed(drop.b, sample(oldV, drop.x, drop.y), sample(v, drop.x, drop.y));
        }
        for (Drop drop : now.drops) {
            move(drop, t, u, v);
        }
        lastP = p;
        lastU = u;
        lastV = v;
        lastRest = most(r);
        done++;
        return rounds;
    }

    private float mixed(float speed, double before, double after) {
        float change = (float) (after - before);
        float kept = now.share * (speed + change);
        float taken = (1f - now.share) * (float) after;
        return Math.max(-8f, Math.min(8f, kept + taken));
    }

    private void move(Drop drop, double t, double[][] u, double[][] v) {
        float wasX = drop.x, wasY = drop.y;
        double x2 = wasX + 0.5 * t * sample(u, wasX, wasY);
        double y2 = wasY + 0.5 * t * sample(v, wasX, wasY);
        drop.x = (float) (wasX + t * sample(u, x2, y2));
        drop.y = (float) (wasY + t * sample(v, x2, y2));
        if (drop.x < 0.0625 || drop.x > 5.9375) {
            drop.x = drop.x < 1 ? 0.0625f : 5.9375f;
            drop.a = -drop.a * 0.5f;
        }
        if (drop.y < 0.0625 || drop.y > 5.9375) {
            drop.y = drop.y < 1 ? 0.0625f : 5.9375f;
            drop.b = -drop.b * 0.5f;
        }
        if (hard((int) drop.x, (int) drop.y)) {
            drop.x = wasX;
            drop.y = wasY;
            drop.a = drop.b = 0;
        }
    }

    private static double most(double[][] r) {
        double most = 0;
        for (double[] row : r) {
            for (double one : row) {
                most = Math.max(most, Math.abs(one));
            }
        }
        return most;
    }

    /** Cells that take no part have diagonal 0; what is read from them is 0 or left out. */
    private int solve(double[][] u, double[][] v, double[][] p, double[][] r) {
        int[][] diagonal = new int[8][8];
        double[][] maker = new double[8][8];
        for (int j = 1; j <= 6; j++) {
            for (int i = 1; i <= 6; i++) {
                if (!wet(i - 1, j - 1)) {
                    continue;
                }
                int[][] beside = {{i - 2, j - 1}, {i, j - 1}, {i - 1, j - 2}, {i - 1, j}};
                for (int[] cell : beside) {
                    diagonal[i][j] += hard(cell[0], cell[1]) ? 0 : 1;
                }
                if (diagonal[i][j] == 0) {
                    continue;
                }
                double e = diagonal[i][j];
                e -= diagonal[i - 1][j] > 0 ? 1 / maker[i - 1][j] : 0;
                e -= diagonal[i][j - 1] > 0 ? 1 / maker[i][j - 1] : 0;
                maker[i][j] = e < 0.25 * diagonal[i][j] ? diagonal[i][j] : e;
                r[i][j] = 0 - (u[i][j - 1] - u[i - 1][j - 1] + v[i - 1][j] - v[i - 1][j - 1]);
            }
        }
        if (most(r) <= now.limit) {
            return 0;
        }
        double[][] z = make(r, diagonal, maker);
        double[][] s = sum(z, 0, z);
        double c = product(z, r);
        for (int round = 1; round <= now.rounds; round++) {
            double[][] as = times(diagonal, s);
            double d = product(as, s);
            if (c <= 0 || d <= c / 1024) {
                return -1;
            }
            double k = c / d;
            store(p, sum(p, k, s));
            store(r, sum(r, -k, as));
            if (most(r) <= now.limit) {
                return round;
            }
            z = make(r, diagonal, maker);
            double next = product(z, r);
            s = sum(z, next / c, s);
            c = next;
        }
        return -1;
    }

    private static double[][] make(double[][] r, int[][] diagonal, double[][] maker) {
        double[][] h = new double[8][8], z = new double[8][8];
        for (int j = 1; j <= 6; j++) {
            for (int i = 1; i <= 6; i++) {
                h[i][j] = r[i][j];
                h[i][j] += diagonal[i - 1][j] > 0 && diagonal[i][j] > 0 ? h[i - 1][j] / maker[i - 1][j] : 0;
                h[i][j] += diagonal[i][j - 1] > 0 && diagonal[i][j] > 0 ? h[i][j - 1] / maker[i][j - 1] : 0;
            }
        }
        for (int j = 6; j >= 1; j--) {
            for (int i = 6; i >= 1; i--) {
                if (diagonal[i][j] > 0) {
                    z[i][j] = h[i][j] / maker[i][j] + z[i + 1][j] / maker[i][j] + z[i][j + 1] / maker[i][j];
                }
            }
        }
        return z;
    }

    private static double[][] times(int[][] diagonal, double[][] s) {
        double[][] z = new double[8][8];
        for (int i = 1; i <= 6; i++) {
            for (int j = 1; j <= 6; j++) {
                if (diagonal[i][j] > 0) {
                    z[i][j] = diagonal[i][j] * s[i][j] - s[i - 1][j] - s[i + 1][j] - s[i][j - 1] - s[i][j + 1];
                }
            }
        }
        return z;
    }

    private static double product(double[][] one, double[][] other) {
        double all = 0;
        for (int j = 0; j < 8; j++) {
            double line = 0;
            for (int i = 0; i < 8; i++) {
                line += one[i][j] * other[i][j];
            }
            all += line;
        }
        return all;
    }

    private static double[][] sum(double[][] one, double k, double[][] other) {
        double[][] sum = new double[8][8];
        for (int i = 0; i < 8; i++) {
            for (int j = 0; j < 8; j++) {
                sum[i][j] = one[i][j] + k * other[i][j];
            }
        }
        return sum;
    }

    private static void store(double[][] into, double[][] from) {
        for (int i = 0; i < 8; i++) {
            into[i] = from[i].clone();
        }
    }
}

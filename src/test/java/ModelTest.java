import java.util.Random;
import java.util.function.Supplier;

/** Runs of calls by a fixed seed, on the program and on PlainWater: all answers must be the same. */
public final class ModelTest {
    private static final int RUNS = 1000;
    /** Some 230 more come at a run's end: in all not more than the 512 that the document speaks of. */
    private static final int CALLS = 275;
    private static final Check CHECK = new Check("ModelTest");

    private final Random random;
    private final String name;
    private final WaterBox box = new WaterBox();
    private final PlainWater plain = new PlainWater();
    /** How wild a run is: some have few particles, some many solid cells. */
    private final int solids;
    private final int adds;
    private int calls = 0;

    private ModelTest(int seed) {
        random = new Random(seed);
        name = "run " + seed + ": ";
        solids = random.nextInt(14);
        adds = 1 + random.nextInt(24);
    }

    public static void main(String[] args) {
        int done = 0;
        int failed = 0;
        int rounds = 0;
        for (int seed = 0; seed < RUNS; seed++) {
            ModelTest run = new ModelTest(seed);
            rounds = Math.max(rounds, run.play());
            done += run.box.count(2);
            failed += run.box.count(3);
        }
        System.out.println("ModelTest: steps done " + done + ", failed " + failed + ", most rounds " + rounds);
        CHECK.same("steps were done and failed", done > RUNS && failed > RUNS / 10 && rounds > 8, true);
        CHECK.end();
    }

    private int play() {
        int rounds = 0;
        for (int n = 0; n < solids; n++) {
            solid(random.nextInt(6), random.nextInt(6), true);
        }
        for (int n = 0; n < adds; n++) {
            addOne();
        }
        while (calls < CALLS) {
            rounds = Math.max(rounds, anyCall());
        }
        compareAll();
        return rounds;
    }

    private int anyCall() {
        int i = random.nextInt(8) - 1;
        int j = random.nextInt(8) - 1;
        switch (random.nextInt(20)) {
            case 0:
                solid(i, j, random.nextInt(3) == 0);
                break;
            case 1:
            case 2:
                addOne();
                break;
            case 3:
                double g = random.nextDouble() * 9 - 4.5;
                both("pull(" + g + ")", () -> box.pull(g), () -> plain.pull(g));
                break;
            case 4:
                float f = random.nextFloat() * 1.2f - 0.1f;
                both("share(" + f + ")", () -> box.share(f), () -> plain.share(f));
                break;
            case 5:
                int k = random.nextInt(33) - 1;
                int rounds = random.nextInt(random.nextBoolean() ? 6 : 43) - 1;
                both("solver(" + k + ", " + rounds + ")", () -> box.solver(k, rounds), () -> plain.solver(k, rounds));
                break;
            case 6:
                boolean mark = random.nextInt(3) != 0;
                both("back(" + mark + ")", () -> bit(box.back(mark)), () -> bit(plain.back(mark)));
                break;
            case 7:
                int no = random.nextInt(26) - 1;
                int what = random.nextInt(6) - 1;
                both("particle(" + no + ", " + what + ")", () -> box.particle(no, what), () -> plain.particle(no, what));
                break;
            case 8:
                both("pressure(" + i + ", " + j + ")", () -> box.pressure(i, j), () -> plain.pressure(i, j));
                break;
            case 9:
                face(random.nextInt(4) - 1, i + random.nextInt(2), j + random.nextInt(2));
                break;
            case 10:
                compareTotals();
                break;
            default:
                return step();
        }
        return 0;
    }

    private int step() {
        double[] times = {random.nextDouble(), random.nextDouble() * 0.25, random.nextInt(9) / 8.0, 1, 1.0000001};
        double t = times[random.nextInt(times.length)];
        String got = both("step(" + t + ")", () -> box.step(t), () -> plain.step(t));
        return got.indexOf('.') > 0 && Character.isDigit(got.charAt(0)) ? (int) Double.parseDouble(got) : 0;
    }

    private void solid(int i, int j, boolean is) {
        both("solid(" + i + ", " + j + ", " + is + ")", () -> bit(box.solid(i, j, is)), () -> bit(plain.solid(i, j, is)));
    }

    private void addOne() {
        boolean round = random.nextBoolean();
        float x = round ? random.nextInt(49) / 8f : random.nextFloat() * 6;
        float y = round ? random.nextInt(49) / 8f : random.nextFloat() * 6;
        float a = random.nextInt(4) == 0 ? random.nextInt(19) - 9 : random.nextFloat() * 16 - 8;
        float b = random.nextInt(4) == 0 ? random.nextInt(19) - 9 : random.nextFloat() * 16 - 8;
        both("add(" + x + ", " + y + ", " + a + ", " + b + ")", () -> box.add(x, y, a, b), () -> plain.add(x, y, a, b));
    }

    private void face(int axis, int i, int j) {
        both("face(" + axis + ", " + i + ", " + j + ")", () -> box.face(axis, i, j), () -> plain.face(axis, i, j));
    }

    private void compareTotals() {
        both("rest()", box::rest, plain::rest);
        both("energy()", box::energy, plain::energy);
        both("drift(0)", () -> box.drift(0), () -> plain.drift(0));
        both("drift(1)", () -> box.drift(1), () -> plain.drift(1));
        int what = random.nextInt(6) - 1;
        both("count(" + what + ")", () -> box.count(what), () -> plain.count(what));
    }

    private void compareAll() {
        compareTotals();
        for (int cell = 0; cell < 36; cell++) {
            int i = cell / 6;
            int j = cell % 6;
            both("pressure(" + i + ", " + j + ")", () -> box.pressure(i, j), () -> plain.pressure(i, j));
        }
        for (int place = 0; place < 42; place++) {
            face(0, place / 6, place % 6);
            face(1, place % 6, place / 6);
        }
        int particles = box.count(0);
        for (int k = 0; k < particles; k++) {
            for (int what = 0; what < 4; what++) {
                int no = k;
                int part = what;
                both("particle(" + k + ", " + what + ")", () -> box.particle(no, part), () -> plain.particle(no, part));
            }
        }
    }

    private String both(String call, Supplier<Number> got, Supplier<Number> due) {
        calls++;
        String answer = answerOf(got);
        CHECK.same(name + call, answer, answerOf(due));
        return answer;
    }

    /** As text, so that even the sign of a 0 counts. */
    private static String answerOf(Supplier<Number> call) {
        try {
            return Double.toString(call.get().doubleValue());
        } catch (RuntimeException e) {
            return e.getClass().getName();
        }
    }

    private static int bit(boolean is) {
        return is ? 1 : 0;
    }
}

import java.lang.reflect.Constructor;
import java.lang.reflect.Field;
import java.lang.reflect.Method;

/**
 * Three sentences of the Terms that no run of calls was found to reach: the first ROUNDS, and the two ways in which
 * a round itself fails. They are looked at inside the object, by the names that the class has there; who renames or
 * moves these, changes this test with them.
 */
public final class InsideTest {
    private static final Check CHECK = new Check("InsideTest");
    private static final int FAILS = WaterBox.NONE;
    private static final int CELL = 14;
    /** Not a neighbour of CELL. */
    private static final int OTHER = 28;

    public static void main(String[] args) throws ReflectiveOperationException {
        roundsAtFirst();
        oneCell();
        cBelowNought();
        cOfNought();
        dBesideC();
        dOfNought();
        CHECK.end();
    }

    private static Object inside(Object owner, String name) throws ReflectiveOperationException {
        Field field = owner.getClass().getDeclaredField(name);
        field.setAccessible(true);
        return field.get(owner);
    }

    private static int roundsOf(WaterBox box) throws ReflectiveOperationException {
        return (Integer) inside(inside(box, "now"), "rounds");
    }

    private static void roundsAtFirst() throws ReflectiveOperationException {
        CHECK.about("The rounds are 20 at first");
        WaterBox box = new WaterBox();
        CHECK.same("of a new object", roundsOf(box), 20);
        box.solver(3, 7);
        CHECK.same("as they were set", roundsOf(box), 7);
        CHECK.about("8: at first as at the beginning: the rounds");
        box.back(false);
        CHECK.same("after back(false)", roundsOf(box), 20);
    }

    private static Object newSolver() throws ReflectiveOperationException {
        Constructor<?> maker = Class.forName("WaterBox$Solver").getDeclaredConstructor();
        maker.setAccessible(true);
        return maker.newInstance();
    }

    /** The right side of the cell is 1. */
    private static void takePart(Object solver, int cell, double diagonal, double maker)
            throws ReflectiveOperationException {
        ((boolean[]) inside(solver, "parts"))[cell] = true;
        ((double[]) inside(solver, "diagonal"))[cell] = diagonal;
        ((double[]) inside(solver, "maker"))[cell] = maker;
        ((double[]) inside(solver, "r"))[cell] = 1;
    }

    private static int solve(Object solver) throws ReflectiveOperationException {
        Method solving = solver.getClass().getDeclaredMethod("findPressure", double.class, int.class);
        solving.setAccessible(true);
        return (Integer) solving.invoke(solver, 0.125, 20);
    }

    /** For one cell z is 1 / maker, c the same, d diagonal / maker / maker: d / c is diagonal / maker. */
    private static int solveOne(double diagonal, double maker) throws ReflectiveOperationException {
        Object solver = newSolver();
        takePart(solver, CELL, diagonal, maker);
        return solve(solver);
    }

    private static void oneCell() throws ReflectiveOperationException {
        CHECK.about("4: one cell with its diagonal as maker is done in one round");
        CHECK.same("rounds", solveOne(4, 4), 1);
    }

    /** d is 1 and so above c / 1024; the round would bring r to 0. */
    private static void cBelowNought() throws ReflectiveOperationException {
        CHECK.about("4: if c is not above 0, it fails");
        CHECK.same("c is -1", solveOne(1, -1), FAILS);
    }

    private static void cOfNought() throws ReflectiveOperationException {
        CHECK.about("4: if c is not above 0, it fails: 0 is not above 0");
        Object solver = newSolver();
        takePart(solver, CELL, 1, 1);
        takePart(solver, OTHER, 1, -1);
        CHECK.same("c is 1 - 1", solve(solver), FAILS);
    }

    private static void dBesideC() throws ReflectiveOperationException {
        CHECK.about("4: if d is not above c * 0.0009765625, it fails");
        CHECK.same("d is less", solveOne(Math.nextDown(1.0), 1024), FAILS);
        CHECK.same("d is the same", solveOne(1, 1024), FAILS);
        CHECK.about("4: a d just above c * 0.0009765625 is enough");
        CHECK.same("rounds", solveOne(Math.nextUp(1.0), 1024), 1);
    }

    private static void dOfNought() throws ReflectiveOperationException {
        CHECK.about("4: if d is not above c * 0.0009765625, it fails: d of 0 or below");
        CHECK.same("d is 0", solveOne(0, 1), FAILS);
        CHECK.same("d is -1", solveOne(-1, 1), FAILS);
    }
}

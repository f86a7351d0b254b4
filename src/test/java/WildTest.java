import java.lang.reflect.InvocationTargetException;
import java.lang.reflect.Method;
import java.util.ArrayList;
import java.util.Comparator;
import java.util.List;
import java.util.Random;

/** Wild arguments in all calls, far more than 512 of them: no call may throw. */
public final class WildTest {
    private static final int[] WILD = {Integer.MIN_VALUE, Integer.MIN_VALUE + 1, -1000, -3, -2, -1, 0, 1, 2, 3, 4, 5, 6,
        7, 11, 12, 13, 30, 31, 35, 36, 37, 60, 61, 119, 120, 127, 128, 65536, Integer.MAX_VALUE - 1, Integer.MAX_VALUE};
    private static final int RUNS = 60, CALLS = 4000;

    private static List<Method> face() {
        List<Method> all = new ArrayList<>();
        for (Method m : LockTable.class.getDeclaredMethods()) {
            if (java.lang.reflect.Modifier.isPublic(m.getModifiers())) all.add(m);
        }
        all.sort(Comparator.comparing(Method::getName));
        return all;
    }

    public static void main(String[] args) throws IllegalAccessException {
        List<Method> face = face();
        for (int run = 0; run < RUNS; run++) {
            Random random = new Random(run);
            LockTable table = new LockTable();
            // the more of these, the deeper the things, the fuller the line
            int tame = random.nextInt(4);
            for (int k = 0; k < CALLS; k++) {
                Method m = face.get(random.nextInt(face.size()));
                Object[] values = new Object[m.getParameterCount()];
                for (int i = 0; i < values.length; i++) {
                    values[i] = random.nextInt(4) < tame ? random.nextInt(6) : WILD[random.nextInt(WILD.length)];
                }
                try {
                    m.invoke(table, values);
                } catch (InvocationTargetException e) {
                    System.out.println("run " + run + ": " + m + " of " + List.of(values) + " threw " + e.getCause());
                    System.exit(1);
                }
            }
        }
        long counts = longSum();
        System.out.println("WildTest: " + RUNS * CALLS + " calls, nothing thrown, " + counts + " counts in the last run");
    }

    /** Counts of more figures than 512 calls can bring: the paper must bear them. */
    private static long longSum() {
        LockTable table = new LockTable();
        for (int k = 0; k < 12; k++) table.thing(k - 1, 0);
        table.list(0, 36);
        for (int k = 0; k < 36; k++) table.set(0, k, k % 3 == 0 ? 5 : k % 3 == 1 ? 11 : 2 + 2 * (k / 3 % 2));
        for (int k = 0; k < 20000; k++) table.does(0, 0);
        table.spells();
        return table.count(2);
    }
}

import java.lang.reflect.InvocationTargetException;
import java.lang.reflect.Method;
import java.util.Arrays;
import java.util.Comparator;
import java.util.function.Supplier;
import java.util.function.ToIntFunction;

/**
 * What the tests of edges share. A test of an edge is a method named by its promise, with the sentence that it holds as
 * its remark; each makes objects of its own, so that none comes near its 512th call.
 */
final class Edges {
    static final int BAD = -1, FULL = -2, NOT = -3;
    static final int LEAST = Integer.MIN_VALUE, MOST = Integer.MAX_VALUE;
    static final int BYTES = 0, INTS = 1, LONGS = 2, DOUBLES = 3;
    static final int ADD = 0, GET = 1, PUT = 2, DIVIDE = 3, PLUS = 4, CALL = 5, FIND = 6, AS = 7, FAIL = 8, SUPER = 9,
            LET_GO = 10, TRY = 11;
    static final int[] NO_NAMES = {-1, 30, LEAST, MOST};

    private final Check check;

    Edges(Check check) {
        this.check = check;
    }

    /** Runs each method that is named by a promise; one that throws is wrong, and the others go on. */
    void runAll(Class<?> test, int... promises) {
        Method[] all = test.getDeclaredMethods();
        Arrays.sort(all, Comparator.comparing(Method::getName));
        for (Method m : all) {
            if (m.getName().startsWith("promise")) {
                run(m);
            }
        }
        for (int p : promises) {
            boolean told = Arrays.stream(all).anyMatch(m -> m.getName().matches("promise" + p + "[A-Z].*"));
            check.due("promise " + p + " has tests", told ? 1 : 0, 1);
        }
    }

    private void run(Method m) {
        check.inside(m.getName());
        try {
            m.setAccessible(true);
            m.invoke(null);
        } catch (InvocationTargetException e) {
            check.due("threw " + e.getCause(), 1, 0);
        } catch (IllegalAccessException e) {
            check.due("can't be run", 1, 0);
        }
        check.inside("");
    }

    /** The call is refused as is due, and changes nothing that can be asked for. */
    void refused(String call, Supplier<ContractLoaders> world, ToIntFunction<ContractLoaders> asked, int due) {
        ContractLoaders x = world.get();
        String before = shown(x);
        check.due(call, asked.applyAsInt(x), due);
        String behind = shown(x);
        check.due(call + " changes nothing: " + before + " .. " + behind, behind.equals(before) ? 1 : 0, 1);
    }

    static int failure(int number) {
        return -20 - number;
    }

    /** All that an object tells without being changed by it. */
    static String shown(ContractLoaders x) {
        StringBuilder all = new StringBuilder();
        for (int what = 0; what < 8; what++) {
            all.append(x.count(what)).append(' ');
        }
        for (int n = 0; n < x.count(1); n++) {
            all.append("| ").append(x.told(n, 3)).append(' ').append(x.told(n, 4)).append(' ').append(x.told(n, 5));
        }
        for (int n = 0; n < x.count(2); n++) {
            all.append("| ").append(x.told(n, 0)).append(' ').append(x.told(n, 1)).append(' ').append(x.told(n, 2));
            all.append(": ").append(rowOf(x, n));
        }
        return all.append("| ").append(x.value()).toString();
    }

    static String rowOf(ContractLoaders x, int contract) {
        StringBuilder row = new StringBuilder();
        for (int i = 0; i < 4; i++) {
            row.append(x.place(contract, i)).append(' ');
        }
        return row.toString();
    }

    /** An object with a LOADER more for each parent. */
    static ContractLoaders loaders(int... parents) {
        ContractLoaders x = new ContractLoaders();
        for (int p : parents) {
            x.loader(p);
        }
        return x;
    }

    /** A FILE of ints with FACES, OFFERED for its inner NAME. */
    static int plain(ContractLoaders x, int loader, int name, int... faces) {
        return over(x, loader, name, -1, faces);
    }

    static int over(ContractLoaders x, int loader, int name, int superName, int... faces) {
        return offered(x, loader, name, x.file(name, superName, false, false, INTS), faces);
    }

    static int face(ContractLoaders x, int loader, int name, int... faces) {
        return offered(x, loader, name, x.file(name, -1, true, false, INTS), faces);
    }

    static int last(ContractLoaders x, int loader, int name) {
        return offered(x, loader, name, x.file(name, -1, false, true, INTS));
    }

    static int offered(ContractLoaders x, int loader, int name, int file, int... faces) {
        for (int f : faces) {
            x.under(file, f);
        }
        x.offer(loader, name, file);
        return file;
    }

    /** CLASSES 5, 6, .. at a LOADER, each with the one before as its SUPER: 5 + n has n above it. */
    static void tower(ContractLoaders x, int loader, int height) {
        for (int n = 0; n < height; n++) {
            over(x, loader, 5 + n, n == 0 ? -1 : 4 + n);
        }
    }

    /** Threes of kind, a, b. */
    static void acts(ContractLoaders x, int file, int m, int... threes) {
        for (int i = 0; i + 2 < threes.length; i += 3) {
            x.act(file, m, threes[i], threes[i + 1], threes[i + 2]);
        }
    }

    /** CONTRACT 0 of a CLASS 5 of the engine, whose METHOD 0 has these ACTS. */
    static ContractLoaders one(int lane, int... threes) {
        ContractLoaders x = new ContractLoaders();
        int f = x.file(5, -1, false, false, lane);
        acts(x, f, 0, threes);
        x.offer(0, 5, f);
        x.deploy(0, 5);
        return x;
    }
}

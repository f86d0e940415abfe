import java.util.ArrayList;
import java.util.HashMap;
import java.util.HashSet;
import java.util.LinkedHashSet;
import java.util.List;
import java.util.Map;
import java.util.Set;

/**
 * The document told once more, word by word, with the machine's own arrays, copies, recursion and exceptions. ModelTest
 * holds the class against it.
 */
final class Model {
    static final class Failure extends RuntimeException {
        final int number;

        Failure(int number) {
            super(null, null, false, false);
            this.number = number;
        }
    }

    static final class Unit {
        int inner, superName, lane;
        boolean face, last;
        final List<Integer> faces = new ArrayList<>();
        final List<List<int[]>> methods = List.of(new ArrayList<>(), new ArrayList<>(), new ArrayList<>());
    }

    static final class Kind {
        int loader, name;
        Unit unit;
        Kind above;
        final List<Kind> faces = new ArrayList<>();
    }

    static final class Account {
        int loader, name;
        Object row;
    }

    final List<Unit> files = new ArrayList<>();
    final List<Integer> parents = new ArrayList<>(List.of(-1));
    final Map<Integer, Unit> offers = new HashMap<>();
    final Map<Integer, Kind> there = new HashMap<>();
    final Set<Integer> making = new HashSet<>();
    final List<Account> accounts = new ArrayList<>();
    final List<Kind> held = new ArrayList<>();
    int made, steps, began, most;
    long value;

    static boolean isName(int n) {
        return n >= 0 && n < 30;
    }

    boolean isLoader(int n) {
        return n >= 0 && n < parents.size();
    }

    boolean isContract(int n) {
        return n >= 0 && n < accounts.size();
    }

    boolean isFile(int n) {
        return n >= 0 && n < files.size();
    }

    int file(int inner, int superName, boolean face, boolean last, int lane) {
        if (!isName(inner) || superName != -1 && !isName(superName) || lane < 0 || lane > 3) return -1;
        if (files.size() == 24) return -2;
        Unit u = new Unit();
        u.inner = inner;
        u.superName = superName;
        u.face = face;
        u.last = last;
        u.lane = lane;
        files.add(u);
        return files.size() - 1;
    }

    int under(int file, int name) {
        if (!isFile(file) || !isName(name)) return -1;
        Unit u = files.get(file);
        if (offers.containsValue(u)) return -3;
        if (u.faces.size() == 2) return -2;
        u.faces.add(name);
        return u.faces.size();
    }

    int act(int file, int m, int kind, int a, int b) {
        if (!isFile(file) || m < 0 || m > 2 || kind < 0 || kind > 11) return -1;
        if ((kind == 6 || kind == 7) && !isName(a) || kind == 8 && (a < 0 || a > 9)) return -1;
        if (kind == 5 && (b < 0 || b > 89)) return -1;
        Unit u = files.get(file);
        if (offers.containsValue(u)) return -3;
        if (u.methods.get(m).size() == 5) return -2;
        u.methods.get(m).add(new int[] {kind, a, b});
        return u.methods.get(m).size();
    }

    int loader(int parent) {
        if (!isLoader(parent)) return -1;
        if (parents.size() == 8) return -2;
        parents.add(parent);
        return parents.size() - 1;
    }

    int offer(int loader, int name, int file) {
        if (!isLoader(loader) || !isName(name) || !isFile(file)) return -1;
        return offers.putIfAbsent(100 * loader + name, files.get(file)) == null ? 1 : -3;
    }

    Kind seek(int l, int name) {
        Kind k = there.get(100 * l + name);
        if (k != null) return k;
        if (parents.get(l) >= 0) {
            try {
                return seek(parents.get(l), name);
            } catch (Failure f) {
                if (f.number != 1) throw f;
            }
        }
        return make(l, name);
    }

    Kind make(int l, int name) {
        Unit u = offers.get(100 * l + name);
        if (u == null) throw new Failure(1);
        if (l != 0 && name <= 4) throw new Failure(4);
        if (u.inner != name) throw new Failure(2);
        if (!making.add(100 * l + name)) throw new Failure(5);
        try {
            Kind k = new Kind();
            k.loader = l;
            k.name = name;
            k.unit = u;
            if (u.superName >= 0) {
                k.above = part(l, u.superName);
                if (k.above.unit.face) throw new Failure(6);
                if (k.above.unit.last) throw new Failure(7);
                int above = 0;
                for (Kind a = k.above.above; a != null; a = a.above) above++;
                if (above >= 12) throw new Failure(17);
            }
            for (int name2 : u.faces) {
                Kind f = part(l, name2);
                if (!f.unit.face) throw new Failure(6);
                k.faces.add(f);
            }
            there.put(100 * l + name, k);
            made++;
            return k;
        } finally {
            making.remove(100 * l + name);
        }
    }

    Kind part(int l, int name) {
        try {
            return seek(l, name);
        } catch (Failure f) {
            throw new Failure(f.number == 1 ? 2 : f.number);
        }
    }

    static void allAbove(Kind k, Set<Kind> into) {
        if (k == null || !into.add(k)) return;
        allAbove(k.above, into);
        for (Kind f : k.faces) allAbove(f, into);
    }

    static boolean isBelow(Kind k, Kind other) {
        Set<Kind> all = new LinkedHashSet<>();
        allAbove(k, all);
        return all.contains(other);
    }

    boolean loaderBelow(int l, int other) {
        for (int k = l; k >= 0; k = parents.get(k)) {
            if (k == other) return true;
        }
        return false;
    }

    int find(int l, int name) {
        if (!isLoader(l) || !isName(name)) return -1;
        try {
            Kind k = seek(l, name);
            return 100 * k.loader + k.name;
        } catch (Failure f) {
            return -20 - f.number;
        }
    }

    int define(int l, int name) {
        if (!isLoader(l) || !isName(name)) return -1;
        if (there.containsKey(100 * l + name)) return -23;
        try {
            make(l, name);
            return 100 * l + name;
        } catch (Failure f) {
            return -20 - f.number;
        }
    }

    int letGo(int l) {
        for (Kind k : held) {
            if (loaderBelow(k.loader, l)) throw new Failure(15);
        }
        int before = there.size();
        there.values().removeIf(k -> loaderBelow(k.loader, l));
        return before - there.size();
    }

    int release(int l) {
        return isLoader(l) ? letGo(l) : -1;
    }

    int below(int l, int name, int at, int other) {
        if (!isLoader(l) || !isName(name) || !isLoader(at) || !isName(other)) return -1;
        try {
            Kind a = seek(l, name);
            Kind b = seek(at, other);
            return isBelow(a, b) ? 1 : 0;
        } catch (Failure f) {
            return -20 - f.number;
        }
    }

    static Object newRow(int lane) {
        return lane == 0 ? new byte[4] : lane == 1 ? new int[4] : lane == 2 ? new long[4] : new double[4];
    }

    static int laneOf(Object row) {
        return row instanceof byte[] ? 0 : row instanceof int[] ? 1 : row instanceof long[] ? 2 : 3;
    }

    Kind noFace(int l, int name) {
        Kind k = seek(l, name);
        if (k.unit.face) throw new Failure(6);
        return k;
    }

    int deploy(int l, int name) {
        if (!isLoader(l) || !isName(name)) return -1;
        if (accounts.size() == 10) return -2;
        try {
            Account a = new Account();
            a.row = newRow(noFace(l, name).unit.lane);
            a.loader = l;
            a.name = name;
            accounts.add(a);
            return accounts.size() - 1;
        } catch (Failure f) {
            return -20 - f.number;
        }
    }

    int upgrade(int c, int l, int name) {
        if (!isContract(c) || !isLoader(l) || !isName(name)) return -1;
        try {
            noFace(l, name);
        } catch (Failure f) {
            return -20 - f.number;
        }
        accounts.get(c).loader = l;
        accounts.get(c).name = name;
        return 1;
    }

    int move(int c, int lane, int i, int n) {
        if (!isContract(c) || lane < 0 || lane > 3 || n > 4) return -1;
        Object row = newRow(lane);
        try {
            System.arraycopy(accounts.get(c).row, i, row, 0, n);
        } catch (ArrayStoreException e) {
            return -29;
        } catch (IndexOutOfBoundsException e) {
            return -30;
        }
        accounts.get(c).row = row;
        return 1;
    }

    static Object copyOf(Object row) {
        if (row instanceof byte[] b) return b.clone();
        if (row instanceof int[] i) return i.clone();
        if (row instanceof long[] l) return l.clone();
        return ((double[]) row).clone();
    }

    List<Object> rows() {
        List<Object> all = new ArrayList<>();
        for (Account a : accounts) all.add(copyOf(a.row));
        return all;
    }

    void bringBack(List<Object> rows) {
        for (int n = 0; n < rows.size(); n++) accounts.get(n).row = rows.get(n);
    }

    int call(int c, int m, long v) {
        if (!isContract(c) || m < 0 || m > 2) return -1;
        List<Object> before = rows();
        try {
            value = work(c, m, v);
            return 1;
        } catch (Failure f) {
            bringBack(before);
            return -20 - f.number;
        }
    }

    long work(int c, int m, long v) {
        if (held.size() == 8) throw new Failure(13);
        began++;
        most = Math.max(most, held.size() + 1);
        Kind k = seek(accounts.get(c).loader, accounts.get(c).name);
        held.add(k);
        try {
            return method(k, k, c, m, v);
        } finally {
            held.remove(held.size() - 1);
        }
    }

    long method(Kind lowest, Kind heldHere, int c, int m, long v) {
        Kind k = lowest;
        while (k != null && k.unit.methods.get(m).isEmpty()) k = k.above;
        if (k == null) throw new Failure(14);
        List<int[]> acts = k.unit.methods.get(m);
        List<Object> tried = null;
        for (int i = 0; i < acts.size(); i++) {
            if (steps == 5000) throw new Failure(16);
            steps++;
            if (acts.get(i)[0] == 11) {
                tried = rows();
                continue;
            }
            try {
                v = one(acts.get(i), k, heldHere, c, m, v);
            } catch (Failure f) {
                if (tried == null || f.number == 16) throw f;
                bringBack(tried);
                v = f.number;
            }
            tried = null;
        }
        return v;
    }

    long one(int[] act, Kind k, Kind heldHere, int c, int m, long v) {
        int a = act[1];
        int b = act[2];
        switch (act[0]) {
            case 4: return v + b;
            case 5: return through(a, b, k, v);
            case 6: {
                Kind f = seek(k.loader, a);
                return 100 * f.loader + f.name;
            }
            case 7:
                if (!isBelow(heldHere, seek(k.loader, a))) throw new Failure(8);
                return v;
            case 8: throw new Failure(20 + a);
            case 9: return method(k.above, heldHere, c, m, v);
            case 10:
                if (!isLoader(a)) throw new Failure(11);
                letGo(a);
                return v;
            default: return onRow(act[0], a, b, k.unit.lane, accounts.get(c).row, v);
        }
    }

    long through(int a, int b, Kind k, long v) {
        if (!isContract(a)) throw new Failure(11);
        Kind face = seek(k.loader, b / 3);
        if (!face.unit.face) throw new Failure(6);
        if (!isBelow(seek(accounts.get(a).loader, accounts.get(a).name), face)) throw new Failure(8);
        return work(a, b % 3, v);
    }

    /** The machine's casts, bounds and divisions fail by themselves; their exceptions are the document's numbers. */
    static long onRow(int kind, int a, int b, int lane, Object row, long v) {
        try {
            if (lane == 0) return onBytes(kind, a, b, (byte[]) row, v);
            if (lane == 1) return onInts(kind, a, b, (int[]) row, v);
            if (lane == 2) return onLongs(kind, a, b, (long[]) row, v);
            return onDoubles(kind, a, b, (double[]) row, v);
        } catch (ClassCastException e) {
            throw new Failure(8);
        } catch (ArrayIndexOutOfBoundsException e) {
            throw new Failure(10);
        } catch (ArithmeticException e) {
            throw new Failure(12);
        }
    }

    static long onBytes(int kind, int a, int b, byte[] row, long v) {
        byte it = row[a];
        if (kind == 0) row[a] += b;
        if (kind == 2) row[a] = (byte) v;
        return kind == 1 ? it : kind == 3 ? v / it : v;
    }

    static long onInts(int kind, int a, int b, int[] row, long v) {
        int it = row[a];
        if (kind == 0) row[a] += b;
        if (kind == 2) row[a] = (int) v;
        return kind == 1 ? it : kind == 3 ? v / it : v;
    }

    static long onLongs(int kind, int a, int b, long[] row, long v) {
        long it = row[a];
        if (kind == 0) row[a] += b;
        if (kind == 2) row[a] = v;
        return kind == 1 ? it : kind == 3 ? v / it : v;
    }

    static long onDoubles(int kind, int a, int b, double[] row, long v) {
        double it = row[a];
        if (kind == 0) row[a] += b;
        if (kind == 2) row[a] = v;
        return kind == 1 ? (long) it : kind == 3 ? (long) (v / it) : v;
    }

    long place(int c, int i) {
        if (!isContract(c) || i < 0 || i > 3) throw new IllegalArgumentException();
        Object row = accounts.get(c).row;
        if (row instanceof byte[] b) return b[i];
        if (row instanceof int[] n) return n[i];
        if (row instanceof long[] l) return l[i];
        return Double.doubleToRawLongBits(((double[]) row)[i]);
    }

    int told(int n, int what) {
        if (what < 0 || what > 5 || !(what <= 2 ? isContract(n) : isLoader(n))) return -1;
        switch (what) {
            case 0: return accounts.get(n).loader;
            case 1: return accounts.get(n).name;
            case 2: return laneOf(accounts.get(n).row);
            case 3: return n == 0 ? -3 : parents.get(n);
            case 4: return (int) there.keySet().stream().filter(k -> k / 100 == n).count();
            default: return (int) offers.keySet().stream().filter(k -> k / 100 == n).count();
        }
    }

    int count(int what) {
        int[] all = {files.size(), parents.size(), accounts.size(), there.size(), made, steps, began, most};
        return what < 0 || what > 7 ? -1 : all[what];
    }
}

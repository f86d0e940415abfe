import java.util.Random;

/** Runs of at most 512 calls drawn by a fixed seed, each answered by the class and by Model. */
final class ModelTest {
    private static final int RUNS = 24000;
    private static final int CALLS = 512;
    /** What stays for the rows and the counts at a run's end, and for the call that comes before them. */
    private static final int CALLS_KEPT = 60;
    private static final Check CHECK = new Check("ModelTest");

    private final Random random;
    private final ContractLoaders x = new ContractLoaders();
    private final Model m = new Model();
    private final int run;
    /** How wide numbers are drawn in this run: few NAMES meet often, many make long chains. */
    private final int names;
    private final boolean tidy;
    private int asked;

    private static final int[] SEEN = new int[64];

    private ModelTest(int run) {
        this.run = run;
        random = new Random(run);
        names = 6 + random.nextInt(25);
        tidy = random.nextInt(3) > 0;
    }

    public static void main(String[] args) {
        for (int run = 0; run < RUNS; run++) {
            new ModelTest(run).go();
        }
        for (int failure = 1; failure <= 29; failure++) {
            if (failure != 18 && failure != 19) {
                CHECK.due("the runs come by failure " + failure, SEEN[failure] > 0 ? 1 : 0, 1);
            }
        }
        CHECK.end();
    }

    private void go() {
        if (run % 3 == 0) tower();
        int setUp = Math.min(asked + 60 + random.nextInt(160), CALLS - CALLS_KEPT);
        while (asked < setUp) {
            setUpCall();
        }
        while (asked < CALLS - CALLS_KEPT) {
            anyCall();
        }
        for (int what = 0; what < 8; what++) {
            same("count(" + what + ")", x.count(what), m.count(what));
        }
        for (int n = 0; n < m.accounts.size(); n++) {
            for (int i = 0; i < 4; i++) place(n, i);
        }
        CHECK.due(where("asks no more than the document promises: " + asked), asked <= CALLS ? 1 : 0, 1);
    }

    private String where(String call) {
        return "run " + run + " " + call;
    }

    private int small(int bound) {
        return random.nextInt(40) == 0 ? random.nextInt(bound + 3) - 1 : random.nextInt(bound);
    }

    private int name() {
        return random.nextInt(60) == 0 ? random.nextInt(33) - 1 : (tidy ? Math.min(29, 3 + random.nextInt(names)) : random.nextInt(30));
    }

    private int loaders() {
        return m.parents.size();
    }

    private long number() {
        switch (random.nextInt(6)) {
            case 0: return random.nextLong();
            case 1: return random.nextLong() >> random.nextInt(64);
            case 2: return Long.MIN_VALUE;
            case 3: return Long.MAX_VALUE;
            case 4: return 0;
            default: return random.nextInt(41) - 20;
        }
    }

    private void setUpCall() {
        int files = Math.max(1, m.files.size());
        switch (random.nextInt(12)) {
            case 0: case 1: file(); break;
            case 2: under(); break;
            case 3: case 4: case 5: case 6: act(small(files)); break;
            case 7: if (random.nextInt(3) == 0) loader(); break;
            case 8: case 9: offer(); break;
            case 10: deploy(); break;
            default: anyCall();
        }
    }

    /** CLASSES one above the other, under one FACE, whose METHODS call one another: many STEPS, deep CALLS. */
    private void tower() {
        int lane = random.nextInt(4);
        for (int l = random.nextInt(3); l > 0; l--) loader();
        int height = 10 + random.nextInt(7);
        same("file(29)", x.file(29, -1, true, false, 0), m.file(29, -1, true, false, 0));
        int top = random.nextInt(loaders());
        same("offer(0, 29, 0)", x.offer(0, 29, 0), m.offer(0, 29, 0));
        for (int n = 0; n < height; n++) {
            int f = m.file(5 + n, n == 0 ? -1 : 4 + n, false, false, lane);
            same("file(" + (5 + n) + ")", x.file(5 + n, n == 0 ? -1 : 4 + n, false, false, lane), f);
            if (n == 0) same("under(" + f + ", 29)", x.under(f, 29), m.under(f, 29));
            for (int acts = random.nextInt(14); acts > 0; acts--) towerAct(f);
            same("offer(" + top + ", " + (5 + n) + ", " + f + ")", x.offer(top, 5 + n, f), m.offer(top, 5 + n, f));
        }
        for (int n = 0; n < 5; n++) {
            int name = 5 + random.nextInt(height);
            same("deploy(" + top + ", " + name + ")", x.deploy(top, name), m.deploy(top, name));
        }
    }

    private void towerAct(int f) {
        int[] kinds = {0, 1, 2, 3, 4, 5, 5, 5, 5, 5, 5, 6, 7, 8, 9, 9, 9, 9, 10, 11, 11, 11};
        int method = random.nextInt(3);
        int kind = kinds[random.nextInt(kinds.length)];
        int a = kind == 6 || kind == 7 ? 5 + random.nextInt(16) : random.nextInt(4);
        int b = kind == 5 ? 3 * 29 + random.nextInt(3) : random.nextInt(9) - 4;
        same("act(" + f + ", " + method + ", " + kind + ", " + a + ", " + b + ")",
                x.act(f, method, kind, a, b), m.act(f, method, kind, a, b));
    }

    private void file() {
        int inner = name();
        int above = random.nextInt(2) == 0 ? -1 : name();
        boolean face = random.nextInt(3) == 0;
        if (face) above = random.nextInt(12) == 0 ? above : -1;
        boolean last = random.nextInt(12) == 0;
        int lane = random.nextInt(3) == 0 ? small(4) : run % 4;
        same("file(" + inner + ", " + above + ", " + face + ", " + last + ", " + lane + ")",
                x.file(inner, above, face, last, lane), m.file(inner, above, face, last, lane));
        if (random.nextInt(2) == 0) act(m.files.size() - 1);
    }

    private void under() {
        int f = small(Math.max(1, m.files.size()));
        int n = name();
        if (tidy && m.isFile(f)) {
            for (int t = 0; t < 20 && !isFaceName(n); t++) n = name();
        }
        same("under(" + f + ", " + n + ")", x.under(f, n), m.under(f, n));
    }

    private boolean isFaceName(int n) {
        for (Model.Unit u : m.files) {
            if (u.face && u.inner == n) return true;
        }
        return false;
    }

    private void act(int f) {
        int method = small(3);
        int kind = small(12);
        int a = kind == 6 || kind == 7 ? name() : kind == 8 || kind == 10 ? small(10) : small(5);
        int b = kind == 5 ? actFace() : random.nextInt(4) == 0 ? random.nextInt() : random.nextInt(300) - 150;
        same("act(" + f + ", " + method + ", " + kind + ", " + a + ", " + b + ")",
                x.act(f, method, kind, a, b), m.act(f, method, kind, a, b));
    }

    private int actFace() {
        int n = name();
        for (int t = 0; t < 20 && !isFaceName(n); t++) n = name();
        return 3 * n + random.nextInt(3);
    }

    private void loader() {
        int p = small(loaders());
        same("loader(" + p + ")", x.loader(p), m.loader(p));
    }

    private void offer() {
        int l = small(loaders());
        int f = small(Math.max(1, m.files.size()));
        int n = m.isFile(f) && random.nextInt(12) > 0 ? m.files.get(f).inner : name();
        same("offer(" + l + ", " + n + ", " + f + ")", x.offer(l, n, f), m.offer(l, n, f));
    }

    private void deploy() {
        int l = small(loaders());
        int n = name();
        same("deploy(" + l + ", " + n + ")", x.deploy(l, n), m.deploy(l, n));
    }

    private void anyCall() {
        int l = small(loaders());
        int n = name();
        int k = small(loaders());
        int o = name();
        int c = small(Math.max(1, m.accounts.size()));
        switch (random.nextInt(22)) {
            case 0: case 1: same("find(" + l + ", " + n + ")", x.find(l, n), m.find(l, n)); break;
            case 2: same("define(" + l + ", " + n + ")", x.define(l, n), m.define(l, n)); break;
            case 3: same("release(" + l + ")", x.release(l), m.release(l)); break;
            case 4: same("below(" + l + ", " + n + ", " + k + ", " + o + ")", x.below(l, n, k, o), m.below(l, n, k, o)); break;
            case 5: deploy(); break;
            case 6: same("upgrade(" + c + ", " + l + ", " + n + ")", x.upgrade(c, l, n), m.upgrade(c, l, n)); break;
            case 7: move(c); break;
            case 8: told(); break;
            case 9: {
                int what = random.nextInt(11) - 1;
                same("count(" + what + ")", x.count(what), m.count(what));
                break;
            }
            case 10: offer(); break;
            case 11: act(small(Math.max(1, m.files.size()))); break;
            case 12: place(c, small(4)); break;
            case 13: if (random.nextInt(4) == 0) file(); else under(); break;
            default: call(c);
        }
    }

    private void move(int c) {
        int lane = m.isContract(c) && random.nextInt(4) > 0 ? m.told(c, 2) : small(4);
        int i = random.nextInt(8) == 0 ? (int) number() : small(4);
        int n = random.nextInt(8) == 0 ? (int) number() : small(5);
        same("move(" + c + ", " + lane + ", " + i + ", " + n + ")", x.move(c, lane, i, n), m.move(c, lane, i, n));
    }

    private void told() {
        int n = random.nextInt(13) - 1;
        int what = random.nextInt(8) - 1;
        same("told(" + n + ", " + what + ")", x.told(n, what), m.told(n, what));
    }

    private void place(int c, int i) {
        long want;
        try {
            want = m.place(c, i);
        } catch (IllegalArgumentException e) {
            asked++;
            CHECK.dueNoPlace(x, c, i);
            return;
        }
        same("place(" + c + ", " + i + ")", x.place(c, i), want);
    }

    private void call(int c) {
        int method = small(3);
        long v = number();
        same("call(" + c + ", " + method + ", " + v + ")", x.call(c, method, v), m.call(c, method, v));
        same("value()", x.value(), m.value);
        for (int n = 0; n < 3; n++) {
            place(small(Math.max(1, m.accounts.size())), small(4));
        }
    }

    private void same(String call, long got, long want) {
        asked++;
        CHECK.due(where(call), got, want);
        boolean ofFailure = !call.startsWith("value") && !call.startsWith("place");
        if (ofFailure && want < -20 && want > -60) SEEN[(int) (-20 - want)]++;
    }
}

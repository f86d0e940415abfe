/** The face: it looks at the numbers of each call, the library and the machine behind it do the work. */
public final class ContractLoaders {
    public static final int BAD = -1, FULL = -2, NOT = -3;

    private static final int NAMES = 30;
    private static final int ENGINE_NAMES = 5;
    private static final int FILES = 24;
    private static final int FACES = 2;
    private static final int METHODS = 3;
    private static final int ACTS = 5;
    private static final int LOADERS = 8;
    private static final int CONTRACTS = 10;
    private static final int PLACES = 4;
    private static final int MOST_ABOVE = 12;
    private static final int MOST_CALLS = 8;
    private static final int MOST_STEPS = 5000;

    private static final int NONE = -1;
    private static final int CLASS_TOLD_BY = 100;
    /** Each CALL in work can stand in the METHOD of one CLASS and of all that are above it. */
    private static final int FRAMES = MOST_CALLS * (MOST_ABOVE + 1);
    /** A turn begins an ACT or ends a METHOD, and there are no more METHODS begun than ACTS and one. */
    private static final int TURNS = 4 * MOST_STEPS;
    /** No NAME is MADE twice in one chain of findings but the one that define() began with. */
    private static final int MOST_MAKING = NAMES + 2;
    /** A bit for each LOADER and NAME. */
    private static final int BELOW_WORDS = (LOADERS * NAMES + 63) / 64;

    /** The least long; all the other bits are the greatest one. */
    private static final long SIGN_BIT = 1L << 63;

    private static final int BYTES = 0, INTS = 1, DOUBLES = 3;

    private static final int ADD = 0, GET = 1, PUT = 2, DIVIDE = 3, PLUS = 4, CALL = 5, FIND = 6, AS = 7, FAIL = 8,
            SUPER = 9, LET_GO = 10, TRY = 11;

    private static final int NOT_FOUND = 1, NOT_DEFINED = 2, THERE_ALREADY = 3, ENGINES_NAME = 4, CIRCLE = 5,
            FACE_OR_NOT = 6, SUPER_IS_LAST = 7, UNLIKE = 8, UNLIKE_COPY = 9, NO_PLACE = 10, NO_SUCH = 11, BY_ZERO = 12,
            TOO_MANY_CALLS = 13, NO_METHOD = 14, IS_HELD = 15, NO_STEPS = 16, TOO_MANY_ABOVE = 17, OWN = 20;

    private final Library library;
    private final Machine machine;

    public ContractLoaders() {
        library = new Library();
        machine = new Machine(library);
    }

    public int file(int inner, int superName, boolean face, boolean last, int lane) {
        if (!isName(inner) || (superName != NONE && !isName(superName)) || !isLane(lane)) {
            return BAD;
        }
        if (library.fileCount >= FILES) {
            return FULL;
        }
        return library.addFile(new ClassFile(inner, superName, face, last, lane));
    }

    public int under(int file, int name) {
        ClassFile f = library.fileAt(file);
        if (f == null || !isName(name)) {
            return BAD;
        }
        if (f.offered) {
            return NOT;
        }
        return f.faceCount >= FACES ? FULL : f.addFace(name);
    }

    public int act(int file, int m, int kind, int a, int b) {
        ClassFile f = library.fileAt(file);
        if (f == null || !isMethod(m) || !isAct(kind, a, b)) {
            return BAD;
        }
        if (f.offered) {
            return NOT;
        }
        return f.actCount(m) >= ACTS ? FULL : f.addAct(m, kind, a, b);
    }

    public int loader(int parent) {
        Loader p = library.loaderAt(parent);
        if (p == null) {
            return BAD;
        }
        return library.loaderCount >= LOADERS ? FULL : library.addLoader(p);
    }

    public int offer(int loader, int name, int file) {
        Loader l = library.loaderAt(loader);
        ClassFile f = library.fileAt(file);
        if (l == null || !isName(name) || f == null) {
            return BAD;
        }
        if (l.offers[name] != null) {
            return NOT;
        }
        l.addOffer(name, f);
        return 1;
    }

    public int find(int loader, int name) {
        Loader l = library.loaderAt(loader);
        if (l == null || !isName(name)) {
            return BAD;
        }
        return toldOrFailure(library.found(l, name, 0));
    }

    public int define(int loader, int name) {
        Loader l = library.loaderAt(loader);
        if (l == null || !isName(name)) {
            return BAD;
        }
        return toldOrFailure(library.defined(l, name));
    }

    public int release(int loader) {
        Loader l = library.loaderAt(loader);
        return l == null ? BAD : library.letGo(l);
    }

    public int below(int loader, int name, int at, int other) {
        Loader l = library.loaderAt(loader);
        Loader k = library.loaderAt(at);
        if (l == null || !isName(name) || k == null || !isName(other)) {
            return BAD;
        }
        LoadedClass lower = library.found(l, name, 0);
        if (lower == null) {
            return failed(library.failure);
        }
        LoadedClass upper = library.found(k, other, 0);
        if (upper == null) {
            return failed(library.failure);
        }
        return lower.isBelow(upper) ? 1 : 0;
    }

    public int deploy(int loader, int name) {
        Loader l = library.loaderAt(loader);
        if (l == null || !isName(name)) {
            return BAD;
        }
        if (machine.contractCount >= CONTRACTS) {
            return FULL;
        }
        LoadedClass c = library.foundNoFace(l, name);
        return c == null ? failed(library.failure) : machine.addContract(l, name, c.file.lane);
    }

    public int upgrade(int contract, int loader, int name) {
        Contract c = machine.contractAt(contract);
        Loader l = library.loaderAt(loader);
        if (c == null || l == null || !isName(name)) {
            return BAD;
        }
        if (library.foundNoFace(l, name) == null) {
            return failed(library.failure);
        }
        c.loader = l;
        c.name = name;
        return 1;
    }

    public int move(int contract, int lane, int i, int n) {
        Contract c = machine.contractAt(contract);
        if (c == null || !isLane(lane) || n > PLACES) {
            return BAD;
        }
        if (lane != c.lane) {
            return failed(UNLIKE_COPY);
        }
        if (n < 0 || i < 0 || i > PLACES - n) {
            return failed(NO_PLACE);
        }
        machine.rows.shift(c.firstCell(), i, n);
        return 1;
    }

    public int call(int contract, int m, long v) {
        Contract c = machine.contractAt(contract);
        if (c == null || !isMethod(m)) {
            return BAD;
        }
        int failure = machine.callFromOutside(c, m, v);
        return failure == 0 ? 1 : failed(failure);
    }

    public long value() {
        return machine.lastValue;
    }

    public long place(int contract, int i) throws IllegalArgumentException {
        Contract c = machine.contractAt(contract);
        if (c == null || i < 0 || i >= PLACES) {
            throw new IllegalArgumentException("there is no such place");
        }
        return machine.rows.shown(c.lane, c.firstCell() + i);
    }

    public int told(int n, int what) {
        if (what >= 0 && what <= 2) {
            Contract c = machine.contractAt(n);
            return c == null ? BAD : toldOfContract(c, what);
        }
        if (what >= 3 && what <= 5) {
            Loader l = library.loaderAt(n);
            return l == null ? BAD : toldOfLoader(l, what);
        }
        return BAD;
    }

    public int count(int what) {
        switch (what) {
            case 0: return library.fileCount;
            case 1: return library.loaderCount;
            case 2: return machine.contractCount;
            case 3: return library.classesThere();
            case 4: return library.made;
            case 5: return machine.steps;
            case 6: return machine.begun;
            case 7: return machine.mostInWork;
            default: return BAD;
        }
    }

    private int toldOrFailure(LoadedClass c) {
        return c == null ? failed(library.failure) : c.number();
    }

    private static int toldOfContract(Contract c, int what) {
        if (what == 0) {
            return c.loader.number;
        }
        return what == 1 ? c.name : c.lane;
    }

    private static int toldOfLoader(Loader l, int what) {
        if (what == 3) {
            return l.parent == null ? NOT : l.parent.number;
        }
        return what == 4 ? l.thereCount : l.offerCount;
    }

    private static int failed(int failure) {
        return -20 - failure;
    }

    private static boolean isName(int name) {
        return name >= 0 && name < NAMES;
    }

    private static boolean isLane(int lane) {
        return lane >= BYTES && lane <= DOUBLES;
    }

    private static boolean isMethod(int m) {
        return m >= 0 && m < METHODS;
    }

    private static boolean isAct(int kind, int a, int b) {
        switch (kind) {
            case CALL: return b >= 0 && b < NAMES * METHODS;
            case FIND: case AS: return isName(a);
            case FAIL: return a >= 0 && a <= 9;
            default: return kind >= ADD && kind <= TRY;
        }
    }

    /** What a CLASS is MADE of; it changes no more once a LOADER OFFERS it. */
    private static final class ClassFile {
        final int inner;
        final int superName;
        final boolean face;
        final boolean last;
        final int lane;
        final int[] faces = new int[FACES];
        int faceCount;
        final int[] actCounts = new int[METHODS];
        final int[] kinds = new int[METHODS * ACTS];
        final int[] as = new int[METHODS * ACTS];
        final int[] bs = new int[METHODS * ACTS];
        boolean offered;

        ClassFile(int inner, int superName, boolean face, boolean last, int lane) {
            this.inner = inner;
            this.superName = superName;
            this.face = face;
            this.last = last;
            this.lane = lane;
        }

        /** Only where there is room: the caller has looked. */
        int addFace(int name) {
            faces[faceCount] = name;
            faceCount++;
            return faceCount;
        }

        /** The SUPER, if there is one, and the FACES behind it. */
        int partCount() {
            return superName == NONE ? faceCount : faceCount + 1;
        }

        boolean isSuper(int part) {
            return part == 0 && superName != NONE;
        }

        /** Only for a part that there is: the caller has looked. */
        int partName(int part) {
            if (superName == NONE) {
                return faces[part];
            }
            return part == 0 ? superName : faces[part - 1];
        }

        int actCount(int m) {
            return actCounts[m];
        }

        /** Only where there is room: the caller has looked. */
        int addAct(int m, int kind, int a, int b) {
            int at = m * ACTS + actCounts[m];
            kinds[at] = kind;
            as[at] = a;
            bs[at] = b;
            actCounts[m]++;
            return actCounts[m];
        }
    }

    /**
     * What a LOADER OFFERS for a NAME, and the CLASS MADE of it while that is there. It is kept when the CLASS is let
     * go, so that making it anew makes no objects.
     */
    private static final class LoadedClass {
        final Loader loader;
        final int name;
        final ClassFile file;
        final int bit;
        final long[] belowBits = new long[BELOW_WORDS];
        LoadedClass superClass;
        int above;
        boolean there;
        boolean making;

        LoadedClass(Loader loader, int name, ClassFile file) {
            this.loader = loader;
            this.name = name;
            this.file = file;
            bit = loader.number * NAMES + name;
        }

        int number() {
            return CLASS_TOLD_BY * loader.number + name;
        }

        /** Forgets what an earlier making, or one that failed, has left. */
        void startMaking() {
            making = true;
            superClass = null;
            above = 0;
            for (int w = 0; w < BELOW_WORDS; w++) {
                belowBits[w] = w == bit >> 6 ? 1L << (bit & 63) : 0L;
            }
        }

        /** Takes a CLASS as SUPER or as a FACE, and answers 0; or the FAILURE, where it can't be one. */
        int put(LoadedClass upper, boolean asSuper) {
            if (upper.file.face == asSuper) {
                return FACE_OR_NOT;
            }
            if (asSuper && upper.file.last) {
                return SUPER_IS_LAST;
            }
            if (asSuper && upper.above >= MOST_ABOVE) {
                return TOO_MANY_ABOVE;
            }
            if (asSuper) {
                superClass = upper;
                above = upper.above + 1;
            }
            for (int w = 0; w < BELOW_WORDS; w++) {
                belowBits[w] |= upper.belowBits[w];
            }
            return 0;
        }

        boolean isBelow(LoadedClass upper) {
            return (belowBits[upper.bit >> 6] >> (upper.bit & 63) & 1L) != 0L;
        }
    }

    private static final class Loader {
        final int number;
        final Loader parent;
        final LoadedClass[] offers = new LoadedClass[NAMES];
        int offerCount;
        int thereCount;

        Loader(int number, Loader parent) {
            this.number = number;
            this.parent = parent;
        }

        void addOffer(int name, ClassFile file) {
            file.offered = true;
            offers[name] = new LoadedClass(this, name, file);
            offerCount++;
        }

        boolean isBelow(Loader upper) {
            for (Loader l = this; l != null; l = l.parent) {
                if (l == upper) {
                    return true;
                }
            }
            return false;
        }

        int forgetClasses() {
            int gone = thereCount;
            for (int name = 0; name < NAMES; name++) {
                if (offers[name] != null) {
                    offers[name].there = false;
                }
            }
            thereCount = 0;
            return gone;
        }
    }

    /** The FILES, the LOADERS and their CLASSES. What answers null has put its number into failure. */
    private static final class Library {
        private final ClassFile[] files = new ClassFile[FILES];
        private final Loader[] loaders = new Loader[LOADERS];
        private int fileCount;
        private int loaderCount;
        private int made;
        private int failure;

        Library() {
            loaders[0] = new Loader(0, null);
            loaderCount = 1;
        }

        ClassFile fileAt(int number) {
            return number < 0 || number >= fileCount ? null : files[number];
        }

        Loader loaderAt(int number) {
            return number < 0 || number >= loaderCount ? null : loaders[number];
        }

        /** Only where there is room: the caller has looked. */
        int addFile(ClassFile f) {
            files[fileCount] = f;
            fileCount++;
            return fileCount - 1;
        }

        /** Only where there is room: the caller has looked. */
        int addLoader(Loader parent) {
            loaders[loaderCount] = new Loader(loaderCount, parent);
            loaderCount++;
            return loaderCount - 1;
        }

        int classesThere() {
            int there = 0;
            for (int n = 0; n < loaderCount; n++) {
                there += loaders[n].thereCount;
            }
            return there;
        }

        LoadedClass foundNoFace(Loader l, int name) {
            LoadedClass c = found(l, name, 0);
            return c != null && c.file.face ? refused(FACE_OR_NOT) : c;
        }

        LoadedClass foundFace(Loader l, int name) {
            LoadedClass c = found(l, name, 0);
            return c != null && !c.file.face ? refused(FACE_OR_NOT) : c;
        }

        LoadedClass defined(Loader l, int name) {
            LoadedClass c = l.offers[name];
            if (c == null) {
                return refused(NOT_FOUND);
            }
            if (c.there) {
                return refused(THERE_ALREADY);
            }
            return makes(c, 0) ? c : null;
        }

        int letGo(Loader upper) {
            int gone = 0;
            for (int n = 0; n < loaderCount; n++) {
                if (loaders[n].isBelow(upper)) {
                    gone += loaders[n].forgetClasses();
                }
            }
            return gone;
        }

        private LoadedClass refused(int number) {
            failure = number;
            return null;
        }

        /** The depth is how many CLASSES are being MADE; whoever asks from outside says 0. */
        private LoadedClass found(Loader l, int name, int depth) {
            LoadedClass c = thereOrOffered(l, name);
            if (c == null) {
                return refused(NOT_FOUND);
            }
            return c.there || makes(c, depth) ? c : null;
        }

        /**
         * The nearest CLASS that is there; else what the LOADER farthest up OFFERS, for each asks its PARENT before it
         * makes one of its own.
         */
        private static LoadedClass thereOrOffered(Loader start, int name) {
            LoadedClass farthest = null;
            for (Loader l = start; l != null; l = l.parent) {
                LoadedClass c = l.offers[name];
                if (c != null && c.there) {
                    return c;
                }
                farthest = c != null ? c : farthest;
            }
            return farthest;
        }

        private boolean makes(LoadedClass c, int depth) {
            failure = reasonNotToMake(c, depth);
            if (failure != 0) {
                return false;
            }
            c.startMaking();
            for (int part = 0; part < c.file.partCount() && failure == 0; part++) {
                LoadedClass upper = found(c.loader, c.file.partName(part), depth + 1);
                failure = upper == null ? failureOfPart(failure) : c.put(upper, c.file.isSuper(part));
            }
            c.making = false;
            if (failure != 0) {
                return false;
            }
            c.there = true;
            c.loader.thereCount++;
            made++;
            return true;
        }

        private static int reasonNotToMake(LoadedClass c, int depth) {
            if (c.loader.number != 0 && c.name < ENGINE_NAMES) {
                return ENGINES_NAME;
            }
            if (c.file.inner != c.name) {
                return NOT_DEFINED;
            }
            return c.making || depth > MOST_MAKING ? CIRCLE : 0;
        }

        private static int failureOfPart(int number) {
            return number == NOT_FOUND ? NOT_DEFINED : number;
        }
    }

    private static final class Contract {
        final int number;
        final int lane;
        Loader loader;
        int name;

        Contract(int number, int lane, Loader loader, int name) {
            this.number = number;
            this.lane = lane;
            this.loader = loader;
            this.name = name;
        }

        int firstCell() {
            return number * PLACES;
        }
    }

    /** The rows of all CONTRACTS, one behind the other: a double LANE's in doubles, each other one's in numbers. */
    private static final class Rows {
        private final long[] numbers = new long[CONTRACTS * PLACES];
        private final double[] doubles = new double[CONTRACTS * PLACES];

        void copyFrom(Rows other) {
            System.arraycopy(other.numbers, 0, numbers, 0, CONTRACTS * PLACES);
            System.arraycopy(other.doubles, 0, doubles, 0, CONTRACTS * PLACES);
        }

        /** Only within the row: the caller has looked. */
        void shift(int first, int i, int n) {
            System.arraycopy(numbers, first + i, numbers, first, n);
            System.arraycopy(doubles, first + i, doubles, first, n);
            for (int p = n; p < PLACES; p++) {
                numbers[first + p] = 0L;
                doubles[first + p] = 0.0;
            }
        }

        void add(int lane, int cell, int b) {
            if (lane == DOUBLES) {
                doubles[cell] = doubles[cell] + (double) b;
            } else {
                numbers[cell] = lowestBits(lane, numbers[cell] + b);
            }
        }

        void put(int lane, int cell, long v) {
            if (lane == DOUBLES) {
                doubles[cell] = (double) v;
            } else {
                numbers[cell] = lowestBits(lane, v);
            }
        }

        long cut(int lane, int cell) {
            return lane == DOUBLES ? (long) doubles[cell] : numbers[cell];
        }

        boolean refusesDivision(int lane, int cell) {
            return lane != DOUBLES && numbers[cell] == 0L;
        }

        /** Of a row that does not refuse it; 0 by a double 0 is answered without the division, which has no number. */
        long divided(int lane, int cell, long v) {
            if (lane != DOUBLES) {
                return numbers[cell] == 0L ? 0L : v / numbers[cell];
            }
            if (doubles[cell] != 0.0) {
                return (long) ((double) v / doubles[cell]);
            }
            if (v == 0L) {
                return 0L;
            }
            return v > 0L ? ~SIGN_BIT : SIGN_BIT;
        }

        long shown(int lane, int cell) {
            return lane == DOUBLES ? bitsOf(doubles[cell]) : numbers[cell];
        }

        private static long lowestBits(int lane, long v) {
            if (lane == BYTES) {
                return (byte) v;
            }
            return lane == INTS ? (int) v : v;
        }

        /** The doubles of rows are whole numbers, sums of ints and longs: 0 (never -0), or of size 1 and more. */
        private static long bitsOf(double d) {
            if (d == 0.0) {
                return 0L;
            }
            double size = d < 0.0 ? -d : d;
            long exponent = 1023L;
            while (size >= 2.0 && exponent < 2046L) {
                size = size / 2.0;
                exponent++;
            }
            long fraction = (long) (size * 4503599627370496.0) - (1L << 52);
            long sign = d < 0.0 ? SIGN_BIT : 0L;
            return sign | exponent << 52 | fraction;
        }
    }

    /** A METHOD in work: of a CALL, or reached from one by SUPER. */
    private static final class Frame {
        boolean ofCall;
        Contract contract;
        LoadedClass held;
        LoadedClass runs;
        int method;
        int next;
        /** The ACT whose FAILURE a TRY holds, and the rows as they were when it began. */
        int tried;
        Rows before;

        void start(boolean ofCall, Contract contract, LoadedClass held, LoadedClass runs, int method) {
            this.ofCall = ofCall;
            this.contract = contract;
            this.held = held;
            this.runs = runs;
            this.method = method;
            next = 0;
            tried = NONE;
        }

        boolean isAtEnd() {
            return next >= runs.file.actCount(method);
        }

        boolean isTrying() {
            return before != null && next > 0 && tried == next - 1;
        }

        void keep(Rows rows) {
            if (before == null) {
                before = new Rows();
            }
            before.copyFrom(rows);
        }
    }

    /** The CONTRACTS, their rows, and the METHODS in work, on a stack of its own. A FAILURE is its number, 0 is none. */
    private static final class Machine {
        private final Library library;
        private final Contract[] contracts = new Contract[CONTRACTS];
        private int contractCount;
        private final Rows rows = new Rows();
        private final Rows rowsOutside = new Rows();
        private final Frame[] frames = new Frame[FRAMES];
        private int frameCount;
        private int inWork;
        private int mostInWork;
        private int begun;
        private int steps;
        /** The VALUE: it goes into each METHOD and comes out of it, so one serves all that are in work. */
        private long current;
        private long lastValue;

        Machine(Library library) {
            this.library = library;
        }

        Contract contractAt(int number) {
            return number < 0 || number >= contractCount ? null : contracts[number];
        }

        /** Only where there is room: the caller has looked. */
        int addContract(Loader l, int name, int lane) {
            contracts[contractCount] = new Contract(contractCount, lane, l, name);
            contractCount++;
            return contractCount - 1;
        }

        int callFromOutside(Contract c, int m, long v) {
            rowsOutside.copyFrom(rows);
            current = v;
            int failure = enter(c, m);
            for (int turn = 0; turn < TURNS && failure == 0 && frameCount > 0; turn++) {
                failure = work(frames[frameCount - 1]);
                if (failure != 0 && isHeldByTry(failure)) {
                    failure = 0;
                }
            }
            if (failure == 0) {
                lastValue = current;
            } else {
                rows.copyFrom(rowsOutside);
            }
            return failure;
        }

        private int enter(Contract c, int m) {
            if (inWork >= MOST_CALLS) {
                return TOO_MANY_CALLS;
            }
            begun++;
            inWork++;
            mostInWork = Math.max(mostInWork, inWork);
            LoadedClass held = library.found(c.loader, c.name, 0);
            int failure = held == null ? library.failure : push(true, c, held, held, m);
            if (failure != 0) {
                inWork--;
            }
            return failure;
        }

        private int push(boolean ofCall, Contract c, LoadedClass held, LoadedClass lowest, int m) {
            LoadedClass runs = firstWithActs(lowest, m);
            if (runs == null) {
                return NO_METHOD;
            }
            if (frameCount >= FRAMES) {
                return TOO_MANY_CALLS;
            }
            if (frames[frameCount] == null) {
                frames[frameCount] = new Frame();
            }
            frames[frameCount].start(ofCall, c, held, runs, m);
            frameCount++;
            return 0;
        }

        private static LoadedClass firstWithActs(LoadedClass lowest, int m) {
            for (LoadedClass c = lowest; c != null; c = c.superClass) {
                if (c.file.actCount(m) > 0) {
                    return c;
                }
            }
            return null;
        }

        private void leave() {
            frameCount--;
            if (frames[frameCount].ofCall) {
                inWork--;
            }
        }

        /** Leaves what has failed: all, or up to the METHOD whose TRY stands right before the ACT that it is at. */
        private boolean isHeldByTry(int failure) {
            for (int n = frameCount; n > 0; n--) {
                Frame f = frames[n - 1];
                if (failure != NO_STEPS && f.isTrying()) {
                    rows.copyFrom(f.before);
                    current = failure;
                    return true;
                }
                leave();
            }
            return false;
        }

        /** Works the next ACT of a METHOD, or leaves it where it has none. */
        private int work(Frame f) {
            if (f.isAtEnd()) {
                leave();
                return 0;
            }
            if (steps >= MOST_STEPS) {
                return NO_STEPS;
            }
            steps++;
            ClassFile file = f.runs.file;
            int at = f.method * ACTS + f.next;
            f.next++;
            int a = file.as[at];
            int b = file.bs[at];
            switch (file.kinds[at]) {
                case PLUS:
                    current += b;
                    return 0;
                case CALL: return workCall(f, a, b);
                case FIND: return workFind(f, a);
                case AS: return workAs(f, a);
                case FAIL: return OWN + a;
                case SUPER: return push(false, f.contract, f.held, f.runs.superClass, f.method);
                case LET_GO: return workLetGo(a);
                case TRY: return workTry(f);
                default: return workOnRow(f, file.kinds[at], a, b);
            }
        }

        private int workOnRow(Frame f, int kind, int a, int b) {
            int lane = f.runs.file.lane;
            if (f.contract.lane != lane) {
                return UNLIKE;
            }
            if (a < 0 || a >= PLACES) {
                return NO_PLACE;
            }
            int cell = f.contract.firstCell() + a;
            if (kind == ADD) {
                rows.add(lane, cell, b);
            } else if (kind == GET) {
                current = rows.cut(lane, cell);
            } else if (kind == PUT) {
                rows.put(lane, cell, current);
            } else if (kind == DIVIDE) {
                if (rows.refusesDivision(lane, cell)) {
                    return BY_ZERO;
                }
                current = rows.divided(lane, cell, current);
            }
            return 0;
        }

        private int workCall(Frame f, int a, int b) {
            Contract c = contractAt(a);
            if (c == null) {
                return NO_SUCH;
            }
            LoadedClass face = library.foundFace(f.runs.loader, b / METHODS);
            if (face == null) {
                return library.failure;
            }
            LoadedClass called = library.found(c.loader, c.name, 0);
            if (called == null) {
                return library.failure;
            }
            return called.isBelow(face) ? enter(c, b % METHODS) : UNLIKE;
        }

        private int workFind(Frame f, int name) {
            LoadedClass c = library.found(f.runs.loader, name, 0);
            if (c == null) {
                return library.failure;
            }
            current = c.number();
            return 0;
        }

        private int workAs(Frame f, int name) {
            LoadedClass c = library.found(f.runs.loader, name, 0);
            if (c == null) {
                return library.failure;
            }
            return f.held.isBelow(c) ? 0 : UNLIKE;
        }

        private int workLetGo(int a) {
            Loader l = library.loaderAt(a);
            if (l == null) {
                return NO_SUCH;
            }
            for (int n = 0; n < frameCount; n++) {
                if (frames[n].held.loader.isBelow(l)) {
                    return IS_HELD;
                }
            }
            library.letGo(l);
            return 0;
        }

        private int workTry(Frame f) {
            if (!f.isAtEnd()) {
                f.tried = f.next;
                f.keep(rows);
            }
            return 0;
        }
    }
}

/** Promises 14 and 15, sentence by sentence: the edges of call and value, of CALLS and ACTS in part 3 of the Terms. */
final class EdgesOfCallsTest {
    private static final Check CHECK = new Check("EdgesOfCallsTest");
    private static final Edges EDGES = new Edges(CHECK);
    private static final int BAD = Edges.BAD, LEAST = Edges.LEAST, MOST = Edges.MOST;
    private static final int BYTES = Edges.BYTES, INTS = Edges.INTS, LONGS = Edges.LONGS, DOUBLES = Edges.DOUBLES;
    private static final int ADD = Edges.ADD, GET = Edges.GET, PUT = Edges.PUT, DIVIDE = Edges.DIVIDE, PLUS = Edges.PLUS,
            CALL = Edges.CALL, FIND = Edges.FIND, AS = Edges.AS, FAIL = Edges.FAIL, SUPER = Edges.SUPER,
            LET_GO = Edges.LET_GO, TRY = Edges.TRY;
    /** b of a CALL through the FACE 10, of its METHODS 0, 1, 2. */
    private static final int TEN_0 = 30, TEN_1 = 31, TEN_2 = 32;
    private static final int[] NO_CONTRACTS = {-1, 3, 10, LEAST, MOST};
    private static final int[] NO_PLACES = {-1, 4, 5, LEAST, MOST};

    public static void main(String[] args) {
        EDGES.runAll(EdgesOfCallsTest.class, 14, 15);
        CHECK.end();
    }

    private static int f(int failure) {
        return Edges.failure(failure);
    }

    /**
     * LOADERS 0, 1, 2, each under the one before; FACES 10, 11 at 0. At 1: CLASS 5 of ints under 10, whose METHOD 0 has
     * these ACTS; CLASS 6 of longs under 10, whose METHOD 0 puts the VALUE at place 0 and adds 1 to the VALUE, METHOD 1
     * puts it at place 1 and FAILS by 3, METHOD 2 has none; CLASS 7 under no FACE. CONTRACTS 0, 1, 2 of them by LOADER 2.
     */
    private static ContractLoaders three(int... acts) {
        ContractLoaders x = Edges.loaders(0, 1);
        Edges.face(x, 0, 10);
        Edges.face(x, 0, 11);
        int caller = x.file(5, -1, false, false, INTS);
        Edges.acts(x, caller, 0, acts);
        Edges.offered(x, 1, 5, caller, 10);
        int called = x.file(6, -1, false, false, LONGS);
        Edges.acts(x, called, 0, PUT, 0, 0, PLUS, 0, 1);
        Edges.acts(x, called, 1, PUT, 1, 0, FAIL, 3, 0);
        Edges.offered(x, 1, 6, called, 10);
        Edges.plain(x, 1, 7);
        for (int name = 5; name < 8; name++) {
            x.deploy(2, name);
        }
        x.find(0, 10);
        x.find(0, 11);
        return x;
    }

    private static void dueCall(String call, ContractLoaders x, int contract, int m, long v, long value) {
        CHECK.due(call, x.call(contract, m, v), 1);
        CHECK.due(call + ", value()", x.value(), value);
    }

    private static void dueOne(int lane, long v, long value, int... acts) {
        dueCall("lane " + lane + " with " + v, Edges.one(lane, acts), 0, 0, v, value);
    }

    /** A call of CONTRACT 0 that FAILS: all that can be asked for stays, but the STEPS and CALLS. */
    private static void dueFailure(String call, ContractLoaders x, long v, int failure) {
        String before = Edges.shown(x);
        CHECK.due(call, x.call(0, 0, v), f(failure));
        String behind = Edges.shown(x);
        CHECK.due(call + " changes nothing: " + before + " .. " + behind, afterCounts(behind).equals(afterCounts(before)) ? 1 : 0, 1);
    }

    private static String afterCounts(String shown) {
        return shown.substring(shown.indexOf('|'));
    }

    // Promise 14: call. Its numbers.

    /** "BAD": there is no such CONTRACT, no such METHOD; that is no CALL. */
    static void promise14NumbersAreNone() {
        int[] noMethods = {-1, 3, LEAST, MOST};
        for (int c : NO_CONTRACTS) {
            EDGES.refused("call(" + c + ", 0, 5)", () -> three(PLUS, 0, 1), x -> x.call(c, 0, 5), BAD);
        }
        for (int m : noMethods) {
            EDGES.refused("call(0, " + m + ", 5)", () -> three(PLUS, 0, 1), x -> x.call(0, m, 5), BAD);
        }
        CHECK.due("without contracts", new ContractLoaders().call(0, 0, 5), BAD);
    }

    /** "CONTRACTS 0, 1, .. (10)", "METHODS 0 .. 2": the last of each. */
    static void promise14NumbersAtTheEnds() {
        ContractLoaders x = new ContractLoaders();
        int file = x.file(5, -1, false, false, INTS);
        for (int m = 0; m < 3; m++) {
            x.act(file, m, PLUS, 0, 1 + m);
        }
        x.offer(0, 5, file);
        for (int n = 0; n < 10; n++) {
            x.deploy(0, 5);
        }
        for (int m = 0; m < 3; m++) {
            dueCall("call(9, " + m + ")", x, 9, m, 5, 6 + m);
            dueCall("call(0, " + m + ")", x, 0, m, 5, 6 + m);
        }
        CHECK.due("call(10, 0)", x.call(10, 0, 5), BAD);
    }

    // Promise 14: a CALL

    /** CLASSES 5, 6, .. under the FACE 29; each CONTRACT's METHOD 0 adds 1 to the VALUE and calls the next one's. */
    private static ContractLoaders row(int contracts, int... lastActs) {
        ContractLoaders x = new ContractLoaders();
        Edges.face(x, 0, 29);
        Edges.face(x, 0, 28);
        x.find(0, 28);
        for (int n = 0; n < contracts; n++) {
            int file = x.file(5 + n, -1, false, false, INTS);
            Edges.acts(x, file, 0, PLUS, 0, 1, ADD, 0, 1);
            if (n < contracts - 1) {
                Edges.acts(x, file, 0, CALL, n + 1, 3 * 29);
            } else {
                Edges.acts(x, file, 0, lastActs);
            }
            Edges.offered(x, 0, 5 + n, file, 29);
            x.deploy(0, 5 + n);
        }
        return x;
    }

    /** "FAILURE 13, if 8 CALLS are in work": eight are not too many. */
    static void promise14EightInWork() {
        ContractLoaders x = row(8);
        dueCall("eight", x, 0, 0, 0, 8);
        CHECK.due("calls", x.count(6), 8);
        CHECK.due("in work", x.count(7), 8);
        for (int n = 0; n < 8; n++) {
            CHECK.due("row of " + n, x.place(n, 0), 1);
        }
    }

    /** "FAILURE 13, if 8 CALLS are in work": the ninth is refused, and did not begin. */
    static void promise14NineInWork() {
        ContractLoaders x = row(9);
        dueFailure("nine", x, 0, 13);
        CHECK.due("calls", x.count(6), 8);
        CHECK.due("in work", x.count(7), 8);
        CHECK.due("steps", x.count(5), 8 * 3);
        dueCall("the last eight", x, 1, 0, 0, 8);
    }

    /** "FAILURE 13, if 8 CALLS are in work": what the ACT CALL looks at before it is ahead. */
    static void promise14ThirteenBehindWhatTheActLooksAt() {
        dueFailure("11", row(8, CALL, 8, 3 * 29), 0, 11);
        dueFailure("1", row(8, CALL, 0, 3 * 27), 0, 1);
        dueFailure("6", row(8, CALL, 0, 3 * 5), 0, 6);
        dueFailure("8", row(8, CALL, 0, 3 * 28), 0, 8);
        dueFailure("13", row(8, CALL, 0, 3 * 29), 0, 13);
    }

    /** "FAILURE 13, if 8 CALLS are in work": ahead of 14. */
    static void promise14ThirteenAheadOfFourteen() {
        dueFailure("13", row(8, CALL, 0, 3 * 29 + 1), 0, 13);
        dueFailure("14", row(7, CALL, 0, 3 * 29 + 1), 0, 14);
    }

    /** "if 8 CALLS are in work": those that ended or failed are in work no more. */
    static void promise14EndedCallsAreNotInWork() {
        ContractLoaders x = three(CALL, 1, TEN_0, TRY, 0, 0, CALL, 1, TEN_1, TRY, 0, 0, CALL, 1, TEN_2);
        for (int n = 1; n <= 10; n++) {
            dueCall("two calls of one", x, 0, 0, 5, 14);
            CHECK.due("in work", x.count(7), 2);
            CHECK.due("calls", x.count(6), 4 * n);
        }
    }

    /** "if 8 CALLS are in work": the METHOD that SUPER works is of the same CALL. */
    static void promise14SuperIsNoCall() {
        ContractLoaders x = new ContractLoaders();
        Edges.face(x, 0, 10);
        int up = x.file(6, -1, false, false, INTS);
        Edges.acts(x, up, 0, PLUS, 0, 1);
        Edges.offered(x, 0, 6, up, 10);
        int low = x.file(5, 6, false, false, INTS);
        Edges.acts(x, low, 0, SUPER, 0, 0, SUPER, 0, 0, TRY, 0, 0, CALL, 0, TEN_0);
        Edges.offered(x, 0, 5, low);
        x.deploy(0, 5);
        dueCall("as deep as it can be", x, 0, 0, 0, 13);
        CHECK.due("calls", x.count(6), 8);
        CHECK.due("in work", x.count(7), 8);
        CHECK.due("steps", x.count(5), 8 * 6);
    }

    /** "if 8 CALLS are in work", "if 12 CLASSES are above it": the most METHODS in work are 8 CALLS' of 13 CLASSES each. */
    static void promise14EightCallsThroughThirteenClasses() {
        ContractLoaders x = new ContractLoaders();
        Edges.face(x, 0, 28);
        for (int n = 0; n < 13; n++) {
            int file = x.file(5 + n, n == 0 ? -1 : 4 + n, false, false, INTS);
            if (n == 0) {
                Edges.acts(x, file, 0, ADD, 0, 1, TRY, 0, 0, CALL, 0, 3 * 28, ADD, 1, 1);
            } else {
                Edges.acts(x, file, 0, SUPER, 0, 0, PLUS, 0, 1);
            }
            Edges.offered(x, 0, 5 + n, file, 28);
        }
        x.deploy(0, 17);
        dueCall("the ninth is held", x, 0, 0, 0, 13 + 8 * 12);
        CHECK.due("calls", x.count(6), 8);
        CHECK.due("all began", x.place(0, 0), 8);
        CHECK.due("all went on", x.place(0, 1), 8);
        CHECK.due("steps", x.count(5), 8 * (12 * 2 + 4));
    }

    /** "Its NAME is FOUND at its LOADER": MADE anew, where it was let go. */
    static void promise14FoundAnew() {
        ContractLoaders x = three(PLUS, 0, 1);
        x.release(0);
        dueCall("made anew", x, 0, 0, 5, 6);
        CHECK.due("with its face", x.count(3), 2);
    }

    /** "Its NAME is FOUND at its LOADER": a FAILURE of that is the CALL's, and it began. */
    static void promise14NotFound() {
        ContractLoaders x = three(PLUS, 0, 1);
        x.offer(0, 5, x.file(12, -1, false, false, INTS));
        CHECK.due("there still", x.call(0, 0, 5), 1);
        x.release(1);
        CHECK.due("2", x.call(0, 0, 5), f(2));
        CHECK.due("2, ahead of 14", x.call(0, 1, 5), f(2));
        CHECK.due("calls", x.count(6), 3);
        CHECK.due("steps", x.count(5), 1);
        CHECK.due("in work", x.count(7), 1);
        CHECK.due("value()", x.value(), 6);
    }

    /** "Its NAME is FOUND at its LOADER": now at a PARENT that OFFERS it meanwhile, though it be a FACE. */
    static void promise14FoundAtTheParentMeanwhile() {
        ContractLoaders x = three(PLUS, 0, 1);
        int file = x.file(5, -1, true, false, LONGS);
        Edges.acts(x, file, 0, PLUS, 0, 100);
        Edges.acts(x, file, 1, GET, 0, 0);
        x.offer(0, 5, file);
        dueCall("there still", x, 0, 0, 5, 6);
        x.release(1);
        dueCall("the parent's", x, 0, 0, 5, 105);
        CHECK.due("its lane is another", x.call(0, 1, 5), f(8));
    }

    // Promise 14: HELD

    /** LOADERS 1 .. 3 each under the one before, 4 under 0; a CLASS 20 + l at each; CONTRACT 0 by 3, its CLASS of 2. */
    private static ContractLoaders holder(int... acts) {
        ContractLoaders x = Edges.loaders(0, 1, 2, 0);
        Edges.plain(x, 0, 6);
        int file = x.file(5, 6, false, false, INTS);
        Edges.acts(x, file, 0, acts);
        x.offer(2, 5, file);
        x.deploy(3, 5);
        for (int l = 0; l < 5; l++) {
            Edges.plain(x, l, 20 + l);
            x.find(l, 20 + l);
        }
        CHECK.due("there", x.count(3), 7);
        return x;
    }

    /** "FAILURE 15, if a CLASS of a LOADER BELOW it is HELD": its own, and each above it. */
    static void promise14HeldBelowWhatIsLetGo() {
        for (int l = 0; l <= 2; l++) {
            dueFailure("LET GO " + l, holder(LET_GO, l, 0), 5, 15);
        }
    }

    /** "else all CLASSES of LOADERS BELOW it are gone": of one below the HELD one, though it be the CONTRACT's LOADER. */
    static void promise14NotHeldBelowWhatIsLetGo() {
        for (int l = 3; l <= 4; l++) {
            ContractLoaders x = holder(LET_GO, l, 0);
            dueCall("LET GO " + l, x, 0, 0, 5, 5);
            CHECK.due("classes of it", x.told(l, 4), 0);
            CHECK.due("there", x.count(3), 6);
            dueCall("LET GO " + l + " again", x, 0, 0, 5, 5);
        }
    }

    /** "10 LET GO LOADER a (11 if there is none such)". */
    static void promise14LetGoOfNone() {
        int[] none = {-1, 5, 8, LEAST, MOST};
        for (int l : none) {
            dueFailure("LET GO " + l, holder(LET_GO, l, 0), 5, 11);
        }
    }

    /**
     * FACE 10 at 0; LOADERS 1, 2 under it. CLASS 5 of 1 with these ACTS; CLASS 6 of 2 under 10, whose METHODS let go 1,
     * let go 2, and FAIL by 4. CONTRACTS 0, 1 of them.
     */
    private static ContractLoaders apart(int... acts) {
        ContractLoaders x = Edges.loaders(0, 0);
        Edges.face(x, 0, 10);
        int caller = x.file(5, -1, false, false, INTS);
        Edges.acts(x, caller, 0, acts);
        x.offer(1, 5, caller);
        int called = x.file(6, -1, false, false, INTS);
        for (int m = 0; m < 2; m++) {
            Edges.acts(x, called, m, LET_GO, 1 + m, 0);
        }
        Edges.acts(x, called, 2, FAIL, 4, 0);
        Edges.offered(x, 2, 6, called, 10);
        x.deploy(1, 5);
        x.deploy(2, 6);
        return x;
    }

    /** "that CLASS is HELD while the CALL is in work": the caller's too, while what it calls is in work. */
    static void promise14HeldWhileInWork() {
        dueFailure("the caller's loader", apart(CALL, 1, TEN_0), 5, 15);
        dueFailure("its own loader", apart(CALL, 1, TEN_1), 5, 15);
        dueFailure("its own, behind a call", apart(TRY, 0, 0, CALL, 1, TEN_2, LET_GO, 1, 0), 5, 15);
    }

    /** "that CLASS is HELD while the CALL is in work": no more when it has ended, or failed. */
    static void promise14HeldNoMoreBehindTheCall() {
        ContractLoaders x = apart(TRY, 0, 0, CALL, 1, TEN_2, LET_GO, 2, 0);
        dueCall("behind a call that failed", x, 0, 0, 5, 24);
        CHECK.due("classes of 2", x.told(2, 4), 0);
        ContractLoaders y = three(LET_GO, 2, 0, CALL, 1, TEN_0, LET_GO, 2, 0);
        dueCall("of a loader that has none", y, 0, 0, 5, 6);
        ContractLoaders z = apart(LET_GO, 2, 0, FIND, 10, 0);
        dueCall("before any call", z, 0, 0, 5, 10);
        CHECK.due("classes of 2", z.told(2, 4), 0);
        dueCall("from outside, then", z, 0, 0, 5, 10);
        CHECK.due("by itself it is held", z.call(1, 1, 5), f(15));
        CHECK.due("and made anew", z.count(4), 4);
    }

    /** "that CLASS is HELD": and is so in the METHOD of its SUPER, at another LOADER. */
    static void promise14HeldInTheSupersMethod() {
        int[] due = {15, 15, 0};
        for (int l = 0; l < 3; l++) {
            ContractLoaders x = Edges.loaders(0, 1);
            int up = x.file(6, -1, false, false, INTS);
            Edges.acts(x, up, 0, LET_GO, l, 0);
            x.offer(0, 6, up);
            Edges.over(x, 1, 5, 6);
            x.deploy(2, 5);
            CHECK.due("LET GO " + l, x.call(0, 0, 5), due[l] == 0 ? 1 : f(due[l]));
        }
    }

    // Promise 14: the METHOD

    /** "The METHOD is that of the first of it, its SUPER, and so on whose FILE has ACTS for m": up to twelve above. */
    static void promise14MethodOfTheFirstThatHasActs() {
        for (int with = 0; with < 13; with++) {
            ContractLoaders x = new ContractLoaders();
            for (int n = 0; n < 13; n++) {
                int file = x.file(5 + n, n == 0 ? -1 : 4 + n, false, false, INTS);
                if (n == 0 || n == with) {
                    Edges.acts(x, file, 0, PLUS, 0, 100 + n);
                }
                x.offer(0, 5 + n, file);
            }
            x.deploy(0, 17);
            dueCall("acts " + (12 - with) + " above it", x, 0, 0, 5, 105 + with);
        }
    }

    /** "14 if none has": for that METHOD; what other METHODS have, or FACES, is none. */
    static void promise14NoMethod() {
        for (int m = 0; m < 3; m++) {
            ContractLoaders x = new ContractLoaders();
            int face = x.file(10, -1, true, false, INTS);
            Edges.acts(x, face, m, PLUS, 0, 1);
            x.offer(0, 10, face);
            int up = x.file(6, -1, false, false, INTS);
            Edges.acts(x, up, (m + 1) % 3, PLUS, 0, 1);
            Edges.offered(x, 0, 6, up, 10);
            int low = x.file(5, 6, false, false, INTS);
            Edges.acts(x, low, (m + 2) % 3, PLUS, 0, 1);
            Edges.offered(x, 0, 5, low, 10);
            x.deploy(0, 5);
            CHECK.due("method " + m, x.call(0, m, 5), f(14));
            CHECK.due("it began", x.count(6), 1);
            CHECK.due("no step", x.count(5), 0);
            CHECK.due("the class's", x.call(0, (m + 2) % 3, 5), 1);
            CHECK.due("the super's", x.call(0, (m + 1) % 3, 5), 1);
        }
    }

    /** "with a VALUE (a long)": "The VALUE behind them is the CALL's", the least and the greatest. */
    static void promise14ValueAtTheEnds() {
        long[] values = {Long.MIN_VALUE, LEAST - 1L, -1, 0, 1, MOST + 1L, Long.MAX_VALUE};
        for (long v : values) {
            dueOne(INTS, v, v, ADD, 0, 1);
            dueCall("through a call", three(CALL, 1, TEN_0), 0, 0, v, v + 1);
        }
    }

    /** "If a CALL from outside FAILS, the rows of all CONTRACTS are as they were when it began": not as when they were new. */
    static void promise14RowsBroughtBack() {
        for (int lane = BYTES; lane <= DOUBLES; lane++) {
            ContractLoaders x = new ContractLoaders();
            Edges.face(x, 0, 10);
            int file = x.file(5, -1, false, false, lane);
            Edges.acts(x, file, 0, ADD, 0, 1, ADD, 3, 1, CALL, 9, TEN_1, FAIL, 0, 0);
            Edges.acts(x, file, 1, ADD, 0, 7, ADD, 3, 9);
            Edges.offered(x, 0, 5, file, 10);
            for (int n = 0; n < 10; n++) {
                x.deploy(0, 5);
            }
            x.call(0, 1, 0);
            x.call(9, 1, 0);
            dueFailure("lane " + lane, x, 5, 20);
            CHECK.due("place(0, 0)", x.place(0, 0), lane == DOUBLES ? Double.doubleToLongBits(7.0) : 7);
            CHECK.due("place(9, 3)", x.place(9, 3), lane == DOUBLES ? Double.doubleToLongBits(9.0) : 9);
        }
    }

    // Promise 14: ACTS on rows

    /** "the CONTRACT's row is taken as one of that LANE: 8 if it is of another one": each kind, each pair of LANES. */
    static void promise14RowOfAnotherLane() {
        for (int kind = ADD; kind <= DIVIDE; kind++) {
            for (int lane = BYTES; lane <= DOUBLES; lane++) {
                for (int other = BYTES; other <= DOUBLES; other++) {
                    ContractLoaders x = new ContractLoaders();
                    x.offer(0, 5, x.file(5, -1, false, false, lane));
                    int file = x.file(6, -1, false, false, other);
                    Edges.acts(x, file, 0, kind == DIVIDE ? ADD : PLUS, 0, 1, kind, 0, 1);
                    x.offer(0, 6, file);
                    x.deploy(0, 5);
                    x.upgrade(0, 0, 6);
                    CHECK.due(kind + " of " + other + " on " + lane, x.call(0, 0, 5), lane == other ? 1 : f(8));
                }
            }
        }
    }

    /** "8 ..; then 10 if there is no place a": 8 is ahead; 3 is a place, 4 is none. */
    static void promise14NoPlace() {
        for (int kind = ADD; kind <= DIVIDE; kind++) {
            for (int lane = BYTES; lane <= DOUBLES; lane++) {
                for (int a : NO_PLACES) {
                    dueFailure(kind + " at " + a, Edges.one(lane, kind, a, 1), 5, 10);
                }
                CHECK.due(kind + " at 3", Edges.one(lane, ADD, 3, 1, kind, 3, 1).call(0, 0, 5), 1);
                CHECK.due(kind + " at 0", Edges.one(lane, ADD, 0, 1, kind, 0, 1).call(0, 0, 5), 1);
            }
            ContractLoaders x = three(PLUS, 0, 1);
            int file = x.file(12, -1, false, false, LONGS);
            Edges.acts(x, file, 0, kind, 4, 1);
            x.offer(1, 12, file);
            x.upgrade(0, 1, 12);
            dueFailure("8 ahead of 10", x, 5, 8);
        }
    }

    /** "(Sums and numbers of the LANE run over.)": bytes. */
    static void promise14BytesRunOver() {
        dueOne(BYTES, 127, -128, PUT, 0, 0, ADD, 0, 1, GET, 0, 0);
        dueOne(BYTES, -128, 127, PUT, 0, 0, ADD, 0, -1, GET, 0, 0);
        dueOne(BYTES, 5, 5, PUT, 0, 0, ADD, 0, 256, GET, 0, 0);
        dueOne(BYTES, 5, 4, PUT, 0, 0, ADD, 0, MOST, GET, 0, 0);
        dueOne(BYTES, 5, 5, PUT, 0, 0, ADD, 0, LEAST, GET, 0, 0);
        dueOne(BYTES, 126, 127, PUT, 0, 0, ADD, 0, 1, GET, 0, 0);
    }

    /** "(Sums and numbers of the LANE run over.)": ints. */
    static void promise14IntsRunOver() {
        dueOne(INTS, MOST, LEAST, PUT, 0, 0, ADD, 0, 1, GET, 0, 0);
        dueOne(INTS, LEAST, MOST, PUT, 0, 0, ADD, 0, -1, GET, 0, 0);
        dueOne(INTS, MOST, -2, PUT, 0, 0, ADD, 0, MOST, GET, 0, 0);
        dueOne(INTS, LEAST, 0, PUT, 0, 0, ADD, 0, LEAST, GET, 0, 0);
        dueOne(INTS, 127, 128, PUT, 0, 0, ADD, 0, 1, GET, 0, 0);
    }

    /** "(Sums and numbers of the LANE run over.)": longs. */
    static void promise14LongsRunOver() {
        dueOne(LONGS, Long.MAX_VALUE, Long.MIN_VALUE, PUT, 0, 0, ADD, 0, 1, GET, 0, 0);
        dueOne(LONGS, Long.MIN_VALUE, Long.MAX_VALUE, PUT, 0, 0, ADD, 0, -1, GET, 0, 0);
        dueOne(LONGS, Long.MIN_VALUE, Long.MAX_VALUE + LEAST + 1, PUT, 0, 0, ADD, 0, LEAST, GET, 0, 0);
        dueOne(LONGS, MOST, MOST + 1L, PUT, 0, 0, ADD, 0, 1, GET, 0, 0);
    }

    /** "the VALUE becomes it (a double cut to a long)": doubles do not run over, they lose what they can't hold. */
    static void promise14DoublesDoNotRunOver() {
        dueOne(DOUBLES, 1L << 53, 1L << 53, PUT, 0, 0, ADD, 0, 1, GET, 0, 0);
        dueOne(DOUBLES, 1L << 53, (1L << 53) + 2, PUT, 0, 0, ADD, 0, 2, GET, 0, 0);
        dueOne(DOUBLES, (1L << 53) + 1, 1L << 53, PUT, 0, 0, GET, 0, 0);
        dueOne(DOUBLES, Long.MAX_VALUE, Long.MAX_VALUE, PUT, 0, 0, GET, 0, 0);
        dueOne(DOUBLES, Long.MAX_VALUE, Long.MAX_VALUE, PUT, 0, 0, ADD, 0, MOST, GET, 0, 0);
        dueOne(DOUBLES, Long.MIN_VALUE, Long.MIN_VALUE, PUT, 0, 0, ADD, 0, LEAST, GET, 0, 0);
        dueOne(DOUBLES, MOST, MOST + 1L, PUT, 0, 0, ADD, 0, 1, GET, 0, 0);
        dueOne(DOUBLES, 0, LEAST, ADD, 0, LEAST, GET, 0, 0);
    }

    /** "2 PUT: it becomes the VALUE (its lowest bits; as a double)"; the VALUE stays. */
    static void promise14PutItsLowestBits() {
        long[] values = {127, 128, 255, 256, -128, -129, MOST, MOST + 1L, LEAST, LEAST - 1L, 1L << 32, (1L << 32) - 1,
            Long.MAX_VALUE, Long.MIN_VALUE};
        for (long v : values) {
            dueOne(BYTES, v, (byte) v, PUT, 3, 0, GET, 3, 0);
            dueOne(INTS, v, (int) v, PUT, 3, 0, GET, 3, 0);
            dueOne(LONGS, v, v, PUT, 3, 0, GET, 3, 0);
            dueOne(DOUBLES, v, (long) (double) v, PUT, 3, 0, GET, 3, 0);
            for (int lane = BYTES; lane <= DOUBLES; lane++) {
                dueOne(lane, v, v, PUT, 3, 0);
            }
        }
    }

    /** "0 ADD: the place a becomes it and b": that place alone, and the VALUE stays. */
    static void promise14AddAtOnePlace() {
        for (int lane = BYTES; lane <= DOUBLES; lane++) {
            for (int a = 0; a < 4; a++) {
                ContractLoaders x = Edges.one(lane, ADD, a, 3);
                dueCall("ADD", x, 0, 0, 77, 77);
                for (int i = 0; i < 4; i++) {
                    long due = i != a ? 0 : lane == DOUBLES ? Double.doubleToLongBits(3.0) : 3;
                    CHECK.due("place " + i, x.place(0, i), due);
                }
            }
        }
    }

    /** "1 GET: the VALUE becomes it": the place stays. */
    static void promise14GetLeavesThePlace() {
        for (int lane = BYTES; lane <= DOUBLES; lane++) {
            dueOne(lane, 5, 5, PUT, 3, 0, PLUS, 0, 1, GET, 3, 0, PLUS, 0, 1, GET, 3, 0);
            dueOne(lane, 5, 0, PUT, 0, 0, GET, 3, 0);
        }
    }

    /** "3 DIVIDE: ..: 12 of bytes, ints, longs that are 0": also where they ran over to 0; -1 and 1 are not. */
    static void promise14DivideByZero() {
        for (int lane = BYTES; lane <= LONGS; lane++) {
            dueFailure("0 by 0", Edges.one(lane, DIVIDE, 0, 0), 0, 12);
            dueFailure("5 by 0", Edges.one(lane, DIVIDE, 3, 0), 5, 12);
            dueFailure("10 ahead of 12", Edges.one(lane, DIVIDE, 4, 0), 5, 10);
            dueOne(lane, 5, -5, ADD, 0, -1, DIVIDE, 0, 0);
            dueOne(lane, 5, 5, ADD, 0, 1, DIVIDE, 0, 0);
        }
        dueFailure("bytes that ran over", Edges.one(BYTES, ADD, 0, 256, DIVIDE, 0, 0), 5, 12);
        dueFailure("ints that ran over", Edges.one(INTS, ADD, 0, LEAST, ADD, 0, LEAST, DIVIDE, 0, 0), 5, 12);
    }

    /** "3 DIVIDE: the VALUE by it": cut towards 0; the least by -1 runs over; the place stays. */
    static void promise14DivideAtTheEnds() {
        for (int lane = BYTES; lane <= LONGS; lane++) {
            dueOne(lane, 7, 3, ADD, 0, 2, DIVIDE, 0, 0);
            dueOne(lane, -7, -3, ADD, 0, 2, DIVIDE, 0, 0);
            dueOne(lane, 7, -3, ADD, 0, -2, DIVIDE, 0, 0);
            dueOne(lane, -7, 3, ADD, 0, -2, DIVIDE, 0, 0);
            dueOne(lane, 1, 0, ADD, 0, 2, DIVIDE, 0, 0);
            dueOne(lane, Long.MIN_VALUE, Long.MIN_VALUE, ADD, 0, -1, DIVIDE, 0, 0);
            dueOne(lane, Long.MAX_VALUE, -Long.MAX_VALUE, ADD, 0, -1, DIVIDE, 0, 0);
            dueOne(lane, 9, 2, ADD, 0, 2, DIVIDE, 0, 0, GET, 0, 0);
        }
    }

    /** "of doubles the VALUE as a double by it, cut to a long": by 0 too, and no longer exact. */
    static void promise14DivideDoubles() {
        dueOne(DOUBLES, 0, 0, DIVIDE, 0, 0);
        dueOne(DOUBLES, 1, Long.MAX_VALUE, DIVIDE, 0, 0);
        dueOne(DOUBLES, -1, Long.MIN_VALUE, DIVIDE, 0, 0);
        dueOne(DOUBLES, Long.MAX_VALUE, Long.MAX_VALUE, DIVIDE, 3, 0);
        dueOne(DOUBLES, Long.MIN_VALUE, Long.MIN_VALUE, DIVIDE, 3, 0);
        dueOne(DOUBLES, 5, Long.MAX_VALUE, ADD, 0, 1, ADD, 0, -1, DIVIDE, 0, 0);
        dueOne(DOUBLES, 5, Long.MAX_VALUE, ADD, 0, -1, ADD, 0, 1, DIVIDE, 0, 0);
        dueOne(DOUBLES, Long.MIN_VALUE, Long.MAX_VALUE, ADD, 0, -1, DIVIDE, 0, 0);
        dueOne(DOUBLES, 7, 3, ADD, 0, 2, DIVIDE, 0, 0);
        dueOne(DOUBLES, -7, -3, ADD, 0, 2, DIVIDE, 0, 0);
        dueOne(DOUBLES, 0, 0, ADD, 0, -2, DIVIDE, 0, 0);
        dueOne(DOUBLES, (1L << 53) + 1, 1L << 53, ADD, 0, 1, DIVIDE, 0, 0);
        dueOne(DOUBLES, Long.MAX_VALUE, 1L << 62, ADD, 0, 2, DIVIDE, 0, 0);
    }

    // Promise 14: the other ACTS

    /** "4 PLUS b": the VALUE runs over, and b is an int of either sign. */
    static void promise14PlusRunsOver() {
        dueOne(BYTES, Long.MAX_VALUE, Long.MIN_VALUE, PLUS, 0, 1);
        dueOne(BYTES, Long.MIN_VALUE, Long.MAX_VALUE, PLUS, 0, -1);
        dueOne(BYTES, 5, 5L + LEAST, PLUS, 0, LEAST);
        dueOne(BYTES, MOST, 2L * MOST, PLUS, 0, MOST);
        dueOne(DOUBLES, (1L << 53) + 1, (1L << 53) + 2, PLUS, LEAST, 1);
    }

    /** "5 CALL CONTRACT a's METHOD ..(11 if there is none such)": ahead of what is with its FACE. */
    static void promise14CallOfNone() {
        for (int a : NO_CONTRACTS) {
            dueFailure("CALL " + a, three(CALL, a, TEN_0), 5, 11);
            dueFailure("CALL " + a + " through none", three(CALL, a, 3 * 20), 5, 11);
            dueFailure("CALL " + a + " through no face", three(CALL, a, 3 * 7), 5, 11);
        }
    }

    /** "METHOD b modulo 3 .., through a FACE, the NAME b / 3": 0 and 89 at the ends. */
    static void promise14CallAtTheEnds() {
        int[] names = {0, 29};
        for (int name : names) {
            for (int m = 0; m < 3; m++) {
                ContractLoaders x = new ContractLoaders();
                Edges.face(x, 0, name);
                int called = x.file(6, -1, false, false, INTS);
                for (int k = 0; k < 3; k++) {
                    Edges.acts(x, called, k, PLUS, 0, 10 + k);
                }
                Edges.offered(x, 0, 6, called, name);
                int caller = x.file(5, -1, false, false, INTS);
                CHECK.due("act", x.act(caller, 0, CALL, 1, 3 * name + m), 1);
                x.offer(0, 5, caller);
                x.deploy(0, 5);
                x.deploy(0, 6);
                dueCall("face " + name + ", method " + m, x, 0, 0, 5, 15 + m);
            }
        }
    }

    /** "that is FOUND at the LOADER of the CLASS whose METHOD runs; 6 if it is no FACE": FAILURES of finding it stay. */
    static void promise14CallThroughNoFace() {
        dueFailure("none offered: 1", three(CALL, 1, 3 * 20), 5, 1);
        dueFailure("no face: 6", three(CALL, 1, 3 * 7), 5, 6);
        dueFailure("no face, though it is below it: 6", three(CALL, 1, 3 * 6), 5, 6);
        ContractLoaders x = three(CALL, 1, 3 * 12);
        Edges.face(x, 2, 12);
        dueFailure("offered by the contract's loader alone: 1", x, 5, 1);
        ContractLoaders y = three(CALL, 1, 3 * 12);
        y.offer(1, 12, y.file(13, -1, true, false, INTS));
        dueFailure("another inner name: 2", y, 5, 2);
        ContractLoaders z = three(CALL, 1, 3 * 4);
        Edges.face(z, 1, 4);
        dueFailure("an engine's name: 4", z, 5, 4);
        ContractLoaders w = three(CALL, 1, 3 * 12);
        Edges.face(w, 1, 12, 12);
        dueFailure("a face of itself: 5", w, 5, 5);
    }

    /** "then the CLASS of the CONTRACT a is FOUND: 8 if it is not BELOW it": behind 6; its FAILURES stay. */
    static void promise14CallOfWhatIsNotBelow() {
        dueFailure("another face: 8", three(CALL, 1, 3 * 11), 5, 8);
        dueFailure("no face at all: 8", three(CALL, 2, TEN_0), 5, 8);
        dueFailure("8 ahead of 14", three(CALL, 2, TEN_2), 5, 8);
        ContractLoaders x = three(LET_GO, 3, 0, CALL, 3, TEN_0);
        x.loader(0);
        Edges.plain(x, 3, 14, 10);
        x.deploy(3, 14);
        x.offer(0, 14, x.file(15, -1, false, false, INTS));
        CHECK.due("its class is found no more: 2", x.call(0, 0, 5), f(2));
        CHECK.due("a call that did not begin", x.count(6), 1);
        ContractLoaders y = three(LET_GO, 3, 0, CALL, 3, 3 * 7);
        y.loader(0);
        Edges.plain(y, 3, 14, 10);
        y.deploy(3, 14);
        y.offer(0, 14, y.file(15, -1, false, false, INTS));
        CHECK.due("6 ahead of 2", y.call(0, 0, 5), f(6));
    }

    /** "5 CALL .. with the VALUE", "The VALUE becomes the CALL's": its METHOD may be none, 14, or FAIL. */
    static void promise14CallOfMethods() {
        ContractLoaders x = three(PLUS, 0, 10, CALL, 1, TEN_0);
        dueCall("CALL", x, 0, 0, 5, 16);
        CHECK.due("with the value", x.place(1, 0), 15);
        dueFailure("23", three(CALL, 1, TEN_1), 5, 23);
        dueFailure("14", three(CALL, 1, TEN_2), 5, 14);
    }

    /** "6 FIND NAME a at the LOADER of the CLASS whose METHOD runs: the VALUE becomes the CLASS": its FAILURES. */
    static void promise14Find() {
        ContractLoaders x = three(FIND, 10, 0);
        dueCall("at the engine", x, 0, 0, 5, 10);
        dueCall("of its own loader", three(FIND, 7, 0), 0, 0, 5, 107);
        dueFailure("1", three(FIND, 20, 0), 5, 1);
        dueFailure("1 of the name 0", three(FIND, 0, 0), 5, 1);
        dueFailure("1 of the name 29", three(FIND, 29, 0), 5, 1);
        ContractLoaders y = three(FIND, 12, 0);
        Edges.plain(y, 2, 12);
        dueFailure("offered by the contract's loader alone", y, 5, 1);
        ContractLoaders z = three(FIND, 4, 0);
        Edges.plain(z, 1, 4);
        dueFailure("4", z, 5, 4);
        Edges.plain(z, 0, 4);
        dueCall("the engine's 4", z, 0, 0, 5, 4);
    }

    /** "7 AS NAME a: likewise FOUND; 8 if the HELD CLASS of this CALL is not BELOW it": itself is BELOW; the VALUE stays. */
    static void promise14As() {
        dueCall("itself", three(AS, 5, 0), 0, 0, 77, 77);
        dueCall("its face", three(AS, 10, 0), 0, 0, 77, 77);
        dueFailure("another face: 8", three(AS, 11, 0), 5, 8);
        dueFailure("another class: 8", three(AS, 6, 0), 5, 8);
        dueFailure("1", three(AS, 20, 0), 5, 1);
        dueFailure("1 of the name 0", three(AS, 0, 0), 5, 1);
        dueFailure("1 of the name 29", three(AS, 29, 0), 5, 1);
        ContractLoaders x = three(AS, 12, 0);
        x.offer(1, 12, x.file(13, -1, true, false, INTS));
        dueFailure("2", x, 5, 2);
    }

    /** "the HELD CLASS of this CALL": not the one whose METHOD runs, nor the caller's. */
    static void promise14AsOfTheHeldClass() {
        ContractLoaders x = new ContractLoaders();
        Edges.face(x, 0, 10);
        int up = x.file(6, -1, false, false, INTS);
        Edges.acts(x, up, 0, AS, 5, 0);
        Edges.acts(x, up, 1, AS, 6, 0);
        Edges.offered(x, 0, 6, up, 10);
        int low = x.file(5, 6, false, false, INTS);
        Edges.acts(x, low, 2, CALL, 1, TEN_0);
        x.offer(0, 5, low);
        x.deploy(0, 5);
        x.deploy(0, 6);
        dueCall("as the lowest, in the super's method", x, 0, 0, 5, 5);
        dueCall("as the super", x, 0, 1, 5, 5);
        CHECK.due("the super as the lowest", x.call(1, 0, 5), f(8));
        CHECK.due("the super, called by the lowest", x.call(0, 2, 5), f(8));
    }

    /** "at the LOADER of the CLASS whose METHOD runs": in a SUPER's METHOD of its own, not of the HELD one. */
    static void promise14FoundAtTheLoaderOfTheMethodsClass() {
        int[] kinds = {FIND, AS, CALL};
        for (int kind : kinds) {
            ContractLoaders x = Edges.loaders(0, 1);
            int up = x.file(6, -1, false, false, INTS);
            Edges.acts(x, up, 0, kind, kind == CALL ? 0 : 12, 3 * 12 + 1);
            Edges.acts(x, up, 1, PLUS, 0, 1);
            x.offer(0, 6, up);
            Edges.face(x, 1, 12);
            Edges.over(x, 1, 5, 6, 12);
            x.deploy(2, 5);
            dueFailure("offered by the held class's loader alone: 1, kind " + kind, x, 5, 1);
            Edges.face(x, 0, 12);
            CHECK.due("the engine's, kind " + kind, x.call(0, 0, 5), kind == FIND ? 1 : f(8));
            CHECK.due("its value", x.value(), kind == FIND ? 12 : 0);
        }
        ContractLoaders y = three(AS, 12, 0);
        Edges.face(y, 2, 12);
        dueFailure("AS, offered by the contract's loader alone: 1", y, 5, 1);
    }

    /** "that CLASS is HELD", "the HELD CLASS of this CALL": the same one in a METHOD that SUPER works. */
    static void promise14HeldThroughSuper() {
        for (int loader = 0; loader < 2; loader++) {
            ContractLoaders x = Edges.loaders(0);
            int up = x.file(6, -1, false, false, INTS);
            Edges.acts(x, up, 0, AS, 5, 0);
            Edges.acts(x, up, 1, LET_GO, 1, 0);
            x.offer(0, 6, up);
            int low = x.file(5, 6, false, false, INTS);
            for (int m = 0; m < 2; m++) {
                Edges.acts(x, low, m, SUPER, 0, 0);
            }
            x.offer(loader, 5, low);
            x.deploy(loader, 5);
            CHECK.due("AS", x.call(0, 0, 5), loader == 0 ? 1 : f(1));
            CHECK.due("LET GO", x.call(0, 1, 5), loader == 0 ? 1 : f(15));
        }
    }

    /** "8 FAIL: 20 and a (0 .. 9)". */
    static void promise14Fail() {
        for (int a = 0; a <= 9; a++) {
            dueFailure("FAIL " + a, Edges.one(INTS, ADD, 0, 1, FAIL, a, 0), 5, 20 + a);
        }
    }

    /** "9 SUPER: the METHOD m of the first that has ACTS above the CLASS whose METHOD runs .. (14 if none has)". */
    static void promise14Super() {
        dueFailure("no super: 14", Edges.one(INTS, SUPER, 0, 0), 5, 14);
        for (int m = 0; m < 3; m++) {
            ContractLoaders x = new ContractLoaders();
            int top = x.file(5, -1, false, false, INTS);
            Edges.acts(x, top, m, PLUS, 0, 1000);
            int low = 17;
            for (int n = 1; n < 12; n++) {
                int file = x.file(5 + n, 4 + n, false, false, INTS);
                Edges.acts(x, file, (m + 1) % 3, PLUS, 0, 7);
                x.offer(0, 5 + n, file);
            }
            int file = x.file(low, low - 1, false, false, INTS);
            Edges.acts(x, file, m, PLUS, 0, 1, SUPER, 0, 0, PLUS, 0, 10);
            Edges.acts(x, file, (m + 2) % 3, SUPER, 0, 0);
            x.offer(0, 5, top);
            x.offer(0, low, file);
            x.deploy(0, low);
            dueCall("twelve above", x, 0, m, 5, 1016);
            CHECK.due("none above has: 14", x.call(0, (m + 2) % 3, 5), f(14));
            CHECK.due("no call of its own", x.count(6), 2);
        }
    }

    /** "above the CLASS whose METHOD runs": not above the HELD one, else it would be the same again. */
    static void promise14SuperOfSuper() {
        ContractLoaders x = new ContractLoaders();
        for (int n = 0; n < 13; n++) {
            int file = x.file(5 + n, n == 0 ? -1 : 4 + n, false, false, INTS);
            Edges.acts(x, file, 0, PLUS, 0, 1 << n);
            if (n > 0) {
                Edges.acts(x, file, 0, SUPER, 0, 0);
            }
            x.offer(0, 5 + n, file);
        }
        x.deploy(0, 17);
        dueCall("each once", x, 0, 0, 0, (1 << 13) - 1);
        CHECK.due("steps", x.count(5), 25);
    }

    // Promise 14: TRY

    /** "11 TRY: at a FAILURE of the next ACT (if there is one)": none is behind it. */
    static void promise14TryAtTheEnd() {
        dueOne(INTS, 5, 5, TRY, 0, 0);
        dueOne(INTS, 5, 5, TRY, 0, 0, TRY, 0, 0);
        ContractLoaders x = three(TRY, 0, 0, CALL, 1, TEN_0, TRY, 0, 0);
        dueCall("behind others", x, 0, 0, 5, 6);
        ContractLoaders y = new ContractLoaders();
        Edges.face(y, 0, 10);
        int file = y.file(5, -1, false, false, INTS);
        Edges.acts(y, file, 0, CALL, 0, TEN_1, FAIL, 1, 0);
        Edges.acts(y, file, 1, TRY, 0, 0);
        Edges.offered(y, 0, 5, file, 10);
        y.deploy(0, 5);
        dueFailure("nothing is behind it, not what the caller does", y, 5, 21);
    }

    /** "of the next ACT": not of the one behind that, nor of its own before. */
    static void promise14TryOfTheNextActAlone() {
        dueFailure("the one behind", Edges.one(INTS, TRY, 0, 0, PLUS, 0, 1, FAIL, 4, 0), 5, 24);
        dueFailure("once", Edges.one(INTS, TRY, 0, 0, FAIL, 4, 0, FAIL, 5, 0), 5, 25);
        dueFailure("behind it", Edges.one(INTS, FAIL, 4, 0, TRY, 0, 0), 5, 24);
        dueFailure("two for one", Edges.one(INTS, TRY, 0, 0, TRY, 0, 0, FAIL, 4, 0, FAIL, 5, 0), 5, 25);
        dueOne(INTS, 5, 25, TRY, 0, 0, FAIL, 4, 0, TRY, 0, 0, FAIL, 5, 0);
        dueOne(INTS, 5, 6, TRY, 0, 0, PLUS, 0, 1);
    }

    /** "of the next ACT": a TRY of a CALL that ended holds nothing of the one behind, at the same place of another METHOD. */
    static void promise14TryOfAnEndedCall() {
        ContractLoaders x = new ContractLoaders();
        Edges.face(x, 0, 10);
        int file = x.file(5, -1, false, false, INTS);
        Edges.acts(x, file, 0, CALL, 0, TEN_1, CALL, 0, TEN_2);
        Edges.acts(x, file, 1, PLUS, 0, 1, TRY, 0, 0, PLUS, 0, 1);
        Edges.acts(x, file, 2, PLUS, 0, 1, PLUS, 0, 1, FAIL, 3, 0);
        Edges.offered(x, 0, 5, file, 10);
        x.deploy(0, 5);
        dueFailure("of a call in the same call", x, 5, 23);
        CHECK.due("a call of its own", x.call(0, 1, 5), 1);
        CHECK.due("from outside", x.call(0, 2, 5), f(23));
    }

    /** "all rows are as they were when that began": what was before stays, what the ACT did is undone, of all. */
    static void promise14TryBringsRowsBack() {
        ContractLoaders x = three(ADD, 0, 1, CALL, 1, TEN_0, TRY, 0, 0, CALL, 1, TEN_1, ADD, 1, 1);
        dueCall("the first time", x, 0, 0, 5, 23);
        CHECK.due("before it", x.place(0, 0), 1);
        CHECK.due("behind it", x.place(0, 1), 1);
        CHECK.due("the call before it", x.place(1, 0), 5);
        CHECK.due("the call that failed", x.place(1, 1), 0);
        dueCall("the second time", x, 0, 0, 6, 23);
        CHECK.due("before it", x.place(0, 0), 2);
        CHECK.due("the call that failed", x.place(1, 1), 0);
    }

    /** "the VALUE is its number, and it goes on behind it": of each FAILURE that a TRY can hold. */
    static void promise14TryHoldsEachFailure() {
        dueHeld(1, three(TRY, 0, 0, FIND, 20, 0, ADD, 3, 1));
        ContractLoaders two = three(TRY, 0, 0, FIND, 12, 0, ADD, 3, 1);
        two.offer(1, 12, two.file(13, -1, false, false, INTS));
        dueHeld(2, two);
        ContractLoaders four = three(TRY, 0, 0, FIND, 4, 0, ADD, 3, 1);
        Edges.plain(four, 1, 4);
        dueHeld(4, four);
        ContractLoaders five = three(TRY, 0, 0, AS, 12, 0, ADD, 3, 1);
        Edges.over(five, 1, 12, 12);
        dueHeld(5, five);
        dueHeld(6, three(TRY, 0, 0, CALL, 1, 3 * 7, ADD, 3, 1));
        ContractLoaders seven = three(TRY, 0, 0, FIND, 12, 0, ADD, 3, 1);
        Edges.over(seven, 1, 12, 13);
        Edges.last(seven, 1, 13);
        dueHeld(7, seven);
        dueHeld(8, three(TRY, 0, 0, AS, 11, 0, ADD, 3, 1));
        dueHeld(10, three(TRY, 0, 0, GET, 4, 0, ADD, 3, 1));
        dueHeld(11, three(TRY, 0, 0, CALL, 3, TEN_0, ADD, 3, 1));
        dueHeld(11, three(TRY, 0, 0, LET_GO, 3, 0, ADD, 3, 1));
        dueHeld(12, three(TRY, 0, 0, DIVIDE, 0, 0, ADD, 3, 1));
        dueHeld(14, three(TRY, 0, 0, SUPER, 0, 0, ADD, 3, 1));
        dueHeld(14, three(TRY, 0, 0, CALL, 1, TEN_2, ADD, 3, 1));
        dueHeld(15, three(TRY, 0, 0, LET_GO, 1, 0, ADD, 3, 1));
        for (int a = 0; a <= 9; a++) {
            dueHeld(20 + a, three(TRY, 0, 0, FAIL, a, 0, ADD, 3, 1));
        }
        ContractLoaders tall = new ContractLoaders();
        int file = tall.file(28, -1, false, false, INTS);
        Edges.acts(tall, file, 0, TRY, 0, 0, FIND, 18, 0, ADD, 3, 1);
        tall.offer(0, 28, file);
        Edges.tower(tall, 0, 14);
        tall.deploy(0, 28);
        dueHeld(17, tall);
        dueCall("13", row(8, TRY, 0, 0, CALL, 0, 3 * 29, PLUS, 0, 100), 0, 0, 0, 113);
    }

    private static void dueHeld(int failure, ContractLoaders x) {
        dueCall("TRY of " + failure, x, 0, 0, 5, failure);
        CHECK.due("it went on", x.place(0, 3), 1);
    }

    /** "at a FAILURE of the next ACT": deep in what it calls, through METHODS of SUPERS; the nearest TRY holds it. */
    static void promise14TryOfWhatIsDeep() {
        ContractLoaders x = new ContractLoaders();
        Edges.face(x, 0, 10);
        int up = x.file(6, -1, false, false, INTS);
        Edges.acts(x, up, 0, ADD, 1, 1, CALL, 0, TEN_2);
        Edges.acts(x, up, 2, ADD, 2, 1, FAIL, 7, 0);
        Edges.offered(x, 0, 6, up, 10);
        int low = x.file(5, 6, false, false, INTS);
        Edges.acts(x, low, 0, ADD, 0, 1, TRY, 0, 0, SUPER, 0, 0, ADD, 3, 1);
        Edges.acts(x, low, 1, TRY, 0, 0, CALL, 0, TEN_0, ADD, 3, 1);
        x.offer(0, 5, low);
        x.deploy(0, 5);
        dueCall("through SUPER and CALL", x, 0, 0, 5, 27);
        CHECK.due("before", x.place(0, 0), 1);
        CHECK.due("in the super's", x.place(0, 1), 0);
        CHECK.due("in the call", x.place(0, 2), 0);
        CHECK.due("behind", x.place(0, 3), 1);
        dueCall("the nearest of two", x, 0, 1, 5, 27);
        CHECK.due("both went on", x.place(0, 3), 3);
        CHECK.due("the called one's first act stays", x.place(0, 0), 2);
    }

    /** "What answers so changes nothing (but what was MADE, STEPS, what is LET GO)": of a CALL that FAILS, or is held. */
    static void promise14MadeAndLetGoStay() {
        ContractLoaders x = holder(LET_GO, 4, 0, FIND, 12, 0, FAIL, 0, 0);
        Edges.plain(x, 2, 12);
        CHECK.due("fails", x.call(0, 0, 5), f(20));
        CHECK.due("let go", x.told(4, 4), 0);
        CHECK.due("made", x.count(4), 8);
        CHECK.due("there", x.count(3), 7);
        CHECK.due("steps", x.count(5), 3);
        CHECK.due("calls", x.count(6), 1);
    }

    // Promise 14: STEPS

    /** "Each ACT that begins is a STEP": one that FAILS, TRY, and those of SUPERS and CALLS; not those behind a FAILURE. */
    static void promise14StepsOfEach() {
        ContractLoaders x = three(TRY, 0, 0, CALL, 1, TEN_1, TRY, 0, 0, FAIL, 0, 0, FAIL, 0, 0);
        CHECK.due("fails", x.call(0, 0, 5), f(20));
        CHECK.due("steps", x.count(5), 5 + 2);
        ContractLoaders y = Edges.one(INTS, PLUS, 0, 1, GET, 4, 0, PLUS, 0, 1);
        CHECK.due("fails", y.call(0, 0, 5), f(10));
        CHECK.due("not those behind it", y.count(5), 2);
    }

    /**
     * So many STEPS are left of the 5000. FACE 10 at the engine; CONTRACT 0 of CLASS 5 under it, METHOD 0 of two CALLS of
     * itself, METHOD 1 of five STEPS, METHOD 2 of one. CONTRACT 1 of CLASS 6 over it, METHOD 0 of these ACTS.
     */
    private static ContractLoaders stepsLeft(int left, int... acts) {
        ContractLoaders x = new ContractLoaders();
        Edges.face(x, 0, 10);
        int file = x.file(5, -1, false, false, LONGS);
        Edges.acts(x, file, 0, PLUS, 0, 1, TRY, 0, 0, CALL, 0, TEN_0, TRY, 0, 0, CALL, 0, TEN_0);
        Edges.acts(x, file, 1, PLUS, 0, 1, PLUS, 0, 1, PLUS, 0, 1, PLUS, 0, 1, PLUS, 0, 1);
        Edges.acts(x, file, 2, PLUS, 0, 1);
        Edges.offered(x, 0, 5, file, 10);
        int low = x.file(6, 5, false, false, LONGS);
        Edges.acts(x, low, 0, acts);
        x.offer(0, 6, low);
        x.deploy(0, 5);
        x.deploy(0, 6);
        for (int n = 0; n < 3; n++) {
            x.call(0, 0, 0);
        }
        int more = 5000 - 3 * 255 * 5 - left;
        for (int n = 0; n < more / 5; n++) {
            x.call(0, 1, 0);
        }
        for (int n = 0; n < more % 5; n++) {
            x.call(0, 2, 0);
        }
        CHECK.due("steps before", x.count(5), 5000 - left);
        return x;
    }

    /** "where one is to begin and 5000 were in all: FAILURE 16": the 5000th is none too many. */
    static void promise14TheLastStep() {
        ContractLoaders x = stepsLeft(2, ADD, 0, 1, ADD, 0, 1);
        dueCall("two of two", x, 1, 0, 77, 77);
        CHECK.due("steps", x.count(5), 5000);
        CHECK.due("worked", x.place(1, 0), 2);
        CHECK.due("the 5001st", x.call(1, 0, 5), f(16));
        CHECK.due("steps", x.count(5), 5000);
        CHECK.due("worked no more", x.place(1, 0), 2);
        CHECK.due("value()", x.value(), 77);
    }

    /** "FAILURE 16": in the midst of a CALL, whose rows are brought back. */
    static void promise14StepsEndWithin() {
        ContractLoaders x = stepsLeft(1, ADD, 0, 1, ADD, 0, 1);
        CHECK.due("one of two", x.call(1, 0, 5), f(16));
        CHECK.due("steps", x.count(5), 5000);
        CHECK.due("brought back", x.place(1, 0), 0);
        CHECK.due("nothing is held", x.release(0), 3);
    }

    /** "FAILURE 16, that no TRY holds": of the next ACT itself, of a CALL's, of a SUPER's. */
    static void promise14NoTryHoldsSixteen() {
        CHECK.due("the next act", stepsLeft(1, TRY, 0, 0, ADD, 0, 1).call(1, 0, 5), f(16));
        CHECK.due("in a call", stepsLeft(2, TRY, 0, 0, CALL, 0, TEN_2).call(1, 0, 5), f(16));
        CHECK.due("in a super's method", stepsLeft(2, TRY, 0, 0, SUPER, 0, 0).call(1, 0, 5), f(16));
        CHECK.due("in calls of calls, each under a TRY", stepsLeft(100, TRY, 0, 0, CALL, 0, TEN_0).call(1, 0, 5), f(16));
        ContractLoaders x = stepsLeft(2, TRY, 0, 0, FAIL, 0, 0);
        dueCall("other failures are held at the last step", x, 1, 0, 5, 20);
    }

    /** "where one is to begin": 14, and FAILURES of finding, are ahead; such a CALL began. */
    static void promise14NoActIsToBegin() {
        ContractLoaders x = stepsLeft(0);
        int calls = x.count(6);
        CHECK.due("16", x.call(0, 2, 5), f(16));
        CHECK.due("16 of the super's method", x.call(1, 1, 5), f(16));
        CHECK.due("it began", x.count(6), calls + 2);
        x.offer(0, 12, x.file(12, -1, false, false, LONGS));
        x.upgrade(1, 0, 12);
        CHECK.due("14", x.call(1, 0, 5), f(14));
        CHECK.due("BAD", x.call(1, 3, 5), BAD);
        CHECK.due("steps", x.count(5), 5000);
    }

    // Promise 15: value

    /** "0 before": also behind calls that were BAD or FAILED. */
    static void promise15ZeroBefore() {
        CHECK.due("a new object", new ContractLoaders().value(), 0);
        ContractLoaders x = Edges.one(INTS, PLUS, 0, 1, FAIL, 0, 0);
        CHECK.due("before", x.value(), 0);
        x.call(0, 0, 5);
        x.call(0, 3, 5);
        x.call(0, 1, 5);
        CHECK.due("behind refused ones", x.value(), 0);
    }

    /** "The VALUE of the latest call() that answered 1": not of one that did not. */
    static void promise15OfTheLatestThatAnsweredOne() {
        ContractLoaders x = three(DIVIDE, 0, 0, PLUS, 0, 7);
        ContractLoaders y = three(CALL, 1, TEN_0, PLUS, 0, 100);
        dueCall("the outer one's", y, 0, 0, 5, 106);
        dueCall("the latest", y, 1, 0, 1, 2);
        CHECK.due("a failure", y.call(1, 1, 55), f(23));
        CHECK.due("stays", y.value(), 2);
        CHECK.due("BAD", y.call(3, 0, 55), BAD);
        CHECK.due("stays", y.value(), 2);
        CHECK.due("no method", y.call(2, 0, 55), f(14));
        CHECK.due("stays", y.value(), 2);
        CHECK.due("asked again", y.value(), 2);
        CHECK.due("fails first", x.call(0, 0, 5), f(12));
        CHECK.due("then 0 still", x.value(), 0);
    }

    /** "The VALUE": the least and the greatest long. */
    static void promise15AtTheEnds() {
        dueOne(LONGS, Long.MAX_VALUE, Long.MAX_VALUE, PLUS, 0, 0);
        dueOne(LONGS, Long.MIN_VALUE, Long.MIN_VALUE, PLUS, 0, 0);
        dueOne(LONGS, 1, 0, PLUS, 0, -1);
    }
}

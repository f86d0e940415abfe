/** Promises 14 and 15: call, value, and with them each ACT. */
final class CallsTest {
    private static final int ADD = 0, GET = 1, PUT = 2, DIVIDE = 3, PLUS = 4, CALL = 5, FIND = 6, AS = 7, FAIL = 8,
            SUPER = 9, LET_GO = 10, TRY = 11;
    private static final int BYTES = 0, INTS = 1, LONGS = 2, DOUBLES = 3;
    private static final Check CHECK = new Check("CallsTest");

    public static void main(String[] args) {
        rowsOfEachLane();
        cuts();
        divisions();
        refusalsOfRows();
        plusFindAsFail();
        methodsOfSupers();
        superAct();
        callThroughFaces();
        callsOrder();
        deepCalls();
        letGo();
        tries();
        triesOfCalls();
        broughtBack();
        stepsEnd();
        manyFrames();
        callThatFindsNone();
        nothingStaysOfEndedCalls();
        wrongNumbers();
        CHECK.end();
    }

    private static int file(ContractLoaders x, int name, int superName, int lane) {
        return x.file(name, superName, false, false, lane);
    }

    private static void acts(ContractLoaders x, int f, int m, int... all) {
        for (int i = 0; i + 2 < all.length; i += 3) {
            x.act(f, m, all[i], all[i + 1], all[i + 2]);
        }
    }

    /** One CONTRACT, 0, of one CLASS, 5 at LOADER 0, with METHOD 0. */
    private static ContractLoaders one(int lane, int... all) {
        ContractLoaders x = new ContractLoaders();
        int f = file(x, 5, -1, lane);
        acts(x, f, 0, all);
        x.offer(0, 5, f);
        x.deploy(0, 5);
        return x;
    }

    private static void dueCall(ContractLoaders x, long v, long value) {
        CHECK.due("call(0, 0, " + v + ")", x.call(0, 0, v), 1);
        CHECK.due("value()", x.value(), value);
    }

    private static void rowsOfEachLane() {
        long[] puts = {0, 1, -1, 127, 128, -129, 65535, 1L << 31, -(1L << 40) - 3, Long.MAX_VALUE, Long.MIN_VALUE};
        int[] bs = {0, 1, -1, 127, 200, Integer.MAX_VALUE, Integer.MIN_VALUE};
        for (long v : puts) {
            for (int b : bs) {
                dueCall(one(BYTES, PUT, 2, 0, ADD, 2, b, GET, 2, 0), v, (byte) (v + b));
                dueCall(one(INTS, PUT, 2, 0, ADD, 2, b, GET, 2, 0), v, (int) (v + b));
                dueCall(one(LONGS, PUT, 2, 0, ADD, 2, b, GET, 2, 0), v, v + b);
                dueCall(one(DOUBLES, PUT, 2, 0, ADD, 2, b, GET, 2, 0), v, (long) ((double) v + b));
                dueCall(one(BYTES, PLUS, 0, b), v, v + b);
            }
            dueCall(one(BYTES, PUT, 0, 0), v, v);
        }
        ContractLoaders x = one(INTS, ADD, 3, 5);
        for (int n = 1; n <= 3; n++) {
            dueCall(x, 9, 9);
            CHECK.due("the row is kept", x.place(0, 3), 5 * n);
            CHECK.due("the place before", x.place(0, 2), 0);
        }
    }

    private static void cuts() {
        dueCall(one(DOUBLES, PUT, 0, 0, GET, 0, 0), (1L << 53) + 1, 1L << 53);
        dueCall(one(DOUBLES, PUT, 0, 0, ADD, 0, 4096, GET, 0, 0), Long.MAX_VALUE, Long.MAX_VALUE);
        dueCall(one(DOUBLES, PUT, 0, 0, ADD, 0, -4096, GET, 0, 0), Long.MIN_VALUE, Long.MIN_VALUE);
        dueCall(one(DOUBLES, PUT, 0, 0, ADD, 0, 4096, GET, 0, 0), Long.MIN_VALUE, Long.MIN_VALUE + 4096);
        ContractLoaders x = one(DOUBLES, PUT, 0, 0, ADD, 0, Integer.MAX_VALUE);
        x.call(0, 0, Long.MAX_VALUE);
        CHECK.due("bits above all longs", x.place(0, 0), Double.doubleToLongBits(0x1p63 + Integer.MAX_VALUE));
        x.call(0, 0, Long.MIN_VALUE);
        CHECK.due("bits far below", x.place(0, 0), Double.doubleToLongBits(-0x1p63 + Integer.MAX_VALUE));
    }

    private static void divisions() {
        long[] values = {0, 1, -1, 7, -7, 100, Long.MAX_VALUE, Long.MIN_VALUE, (1L << 53) + 1};
        int[] bys = {1, -1, 2, -3, 100};
        for (long v : values) {
            for (int by : bys) {
                for (int lane = BYTES; lane <= LONGS; lane++) {
                    dueCall(one(lane, ADD, 1, by, DIVIDE, 1, 0), v, v / by);
                }
                dueCall(one(DOUBLES, ADD, 1, by, DIVIDE, 1, 0), v, (long) ((double) v / by));
            }
            for (int lane = BYTES; lane <= LONGS; lane++) {
                CHECK.due("by 0", one(lane, DIVIDE, 1, 0).call(0, 0, v), -32);
            }
            dueCall(one(DOUBLES, DIVIDE, 1, 0), v, v == 0 ? 0 : v > 0 ? Long.MAX_VALUE : Long.MIN_VALUE);
        }
        CHECK.due("bytes that run over to 0", one(BYTES, ADD, 0, 256, DIVIDE, 0, 0).call(0, 0, 5), -32);
        dueCall(one(INTS, ADD, 0, 256, DIVIDE, 0, 0), 512, 2);
    }

    private static void refusalsOfRows() {
        int[] none = {-1, 4, Integer.MIN_VALUE, Integer.MAX_VALUE};
        for (int kind = ADD; kind <= DIVIDE; kind++) {
            for (int a : none) {
                CHECK.due("10, kind " + kind, one(INTS, kind, a, 1).call(0, 0, 5), -30);
            }
            ContractLoaders x = new ContractLoaders();
            int f = file(x, 5, -1, INTS);
            int g = file(x, 6, -1, LONGS);
            acts(x, g, 0, kind, -1, 0);
            acts(x, g, 1, PLUS, -1, 3);
            x.offer(0, 5, f);
            x.offer(0, 6, g);
            x.deploy(0, 5);
            x.upgrade(0, 0, 6);
            CHECK.due("8 ahead of 10, kind " + kind, x.call(0, 0, 5), -28);
            CHECK.due("PLUS takes no row", x.call(0, 1, 5), 1);
            CHECK.due("its value", x.value(), 8);
        }
    }

    private static void plusFindAsFail() {
        ContractLoaders x = new ContractLoaders();
        x.loader(0);
        x.loader(1);
        int low = file(x, 5, 6, INTS);
        acts(x, low, 0, FIND, 7, 0, PLUS, 0, 1);
        acts(x, low, 1, AS, 6, 0, AS, 5, 0);
        acts(x, low, 2, FIND, 20, 0);
        x.offer(1, 5, low);
        int up = file(x, 6, -1, INTS);
        x.offer(0, 6, up);
        int seven = file(x, 7, -1, INTS);
        acts(x, seven, 0, AS, 6, 0);
        acts(x, seven, 1, AS, 20, 0);
        x.offer(1, 7, seven);
        x.offer(2, 7, seven);
        x.deploy(2, 5);
        x.define(2, 7);
        CHECK.due("FIND", x.call(0, 0, 5), 1);
        CHECK.due("at the loader of the class, not of the contract", x.value(), 108);
        CHECK.due("AS", x.call(0, 1, 5), 1);
        CHECK.due("AS keeps the value", x.value(), 5);
        CHECK.due("FIND none", x.call(0, 2, 5), -21);
        x.deploy(1, 7);
        CHECK.due("AS another", x.call(1, 0, 5), -28);
        CHECK.due("AS none", x.call(1, 1, 5), -21);
        for (int a = 0; a < 10; a++) {
            CHECK.due("FAIL " + a, one(INTS, FAIL, a, 77).call(0, 0, 5), -40 - a);
        }
    }

    private static void methodsOfSupers() {
        ContractLoaders x = new ContractLoaders();
        int low = file(x, 5, 6, INTS);
        acts(x, low, 0, PLUS, 0, 1);
        x.offer(0, 5, low);
        int mid = file(x, 6, 7, INTS);
        x.offer(0, 6, mid);
        int up = file(x, 7, -1, LONGS);
        x.under(up, 8);
        acts(x, up, 0, PLUS, 0, 100);
        acts(x, up, 1, PLUS, 0, 200, GET, 0, 0);
        x.offer(0, 7, up);
        int face = x.file(8, -1, true, false, INTS);
        acts(x, face, 2, PLUS, 0, 1000);
        x.offer(0, 8, face);
        x.deploy(0, 5);
        x.deploy(0, 6);
        dueCall(x, 5, 6);
        CHECK.due("the super's super's", x.call(1, 0, 5), 1);
        CHECK.due("its value", x.value(), 105);
        CHECK.due("its lane is that of the file whose method it is", x.call(0, 1, 5), -28);
        CHECK.due("faces give no method", x.call(0, 2, 5), -34);
        CHECK.due("value() stays", x.value(), 105);
    }

    private static void superAct() {
        ContractLoaders x = new ContractLoaders();
        x.loader(0);
        int low = file(x, 5, 6, INTS);
        acts(x, low, 0, PLUS, 0, 1, SUPER, 0, 0, PLUS, 0, 1000);
        acts(x, low, 1, SUPER, 2, 2);
        acts(x, low, 2, SUPER, 0, 0);
        x.offer(1, 5, low);
        int mid = file(x, 6, 7, INTS);
        acts(x, mid, 0, PLUS, 0, 10, SUPER, 0, 0, PUT, 0, 0);
        acts(x, mid, 2, TRY, 0, 0, SUPER, 0, 0);
        x.offer(1, 6, mid);
        int up = file(x, 7, -1, INTS);
        acts(x, up, 0, PLUS, 0, 100, FIND, 5, 0);
        acts(x, up, 1, AS, 7, 0);
        x.offer(0, 7, up);
        x.deploy(1, 5);
        CHECK.due("5 at the loader of the method's class", x.call(0, 0, 5), -21);
        x.offer(0, 8, file(x, 8, -1, INTS));
        CHECK.due("SUPER, over one that has none", x.call(0, 1, 5), 1);
        CHECK.due("the held class is the lowest", x.value(), 5);
        CHECK.due("a TRY holds its 14", x.call(0, 2, 5), 1);
        CHECK.due("14", x.value(), 14);
        CHECK.due("no calls but these", x.count(6), 3);
        CHECK.due("one in work", x.count(7), 1);
        CHECK.due("steps", x.count(5), 6 + 2 + 3);
        CHECK.due("14", one(INTS, SUPER, 0, 0).call(0, 0, 5), -34);
    }

    /** FACES 10, 11 at LOADER 0; at LOADER 1 CLASS 5 calls, CLASS 6 under 10 answers; CONTRACTS 0 of 5, 1 of 6. */
    private static ContractLoaders pair(int... acts) {
        ContractLoaders x = new ContractLoaders();
        x.loader(0);
        x.offer(0, 10, x.file(10, -1, true, false, 0));
        x.offer(0, 11, x.file(11, -1, true, false, 0));
        int caller = file(x, 5, -1, INTS);
        acts(x, caller, 0, acts);
        x.offer(1, 5, caller);
        int called = file(x, 6, -1, LONGS);
        x.under(called, 10);
        acts(x, called, 0, PLUS, 0, 1, PUT, 0, 0);
        acts(x, called, 1, PUT, 1, 0, FAIL, 3, 0);
        acts(x, called, 2, PUT, 2, 0, DIVIDE, 3, 0);
        x.offer(1, 6, called);
        x.deploy(1, 5);
        x.deploy(1, 6);
        return x;
    }

    private static void callThroughFaces() {
        ContractLoaders x = pair(ADD, 0, 1, CALL, 1, 30, PLUS, 0, 10);
        dueCall(x, 5, 16);
        CHECK.due("the called one's row", x.place(1, 0), 6);
        CHECK.due("the caller's row", x.place(0, 0), 1);
        CHECK.due("calls", x.count(6), 2);
        CHECK.due("in work", x.count(7), 2);
        CHECK.due("steps", x.count(5), 5);
        CHECK.due("its method 1", pair(CALL, 1, 31).call(0, 0, 5), -43);
        CHECK.due("its method 2", pair(CALL, 1, 32).call(0, 0, 5), -32);
        CHECK.due("11", pair(CALL, 2, 30).call(0, 0, 5), -31);
        CHECK.due("11 below", pair(CALL, -1, 30).call(0, 0, 5), -31);
        CHECK.due("no face at all", pair(CALL, 1, 60).call(0, 0, 5), -21);
        CHECK.due("6", pair(CALL, 1, 18).call(0, 0, 5), -26);
        CHECK.due("8", pair(CALL, 1, 33).call(0, 0, 5), -28);
        CHECK.due("itself, not below", pair(CALL, 0, 30).call(0, 0, 5), -28);
    }

    private static void callsOrder() {
        CHECK.due("11 ahead of the face", pair(CALL, 2, 60).call(0, 0, 5), -31);
        ContractLoaders x = pair(LET_GO, 0, 0);
        CHECK.due("held", x.call(0, 0, 5), -35);
        ContractLoaders y = new ContractLoaders();
        y.loader(0);
        y.loader(0);
        y.offer(1, 10, y.file(10, -1, true, false, 0));
        y.offer(2, 10, y.file(10, -1, true, false, 0));
        int caller = file(y, 5, -1, INTS);
        acts(y, caller, 0, CALL, 1, 30);
        acts(y, caller, 1, CALL, 1, 15);
        y.offer(1, 5, caller);
        int called = file(y, 6, -1, INTS);
        y.under(called, 10);
        acts(y, called, 0, PLUS, 0, 1);
        y.offer(2, 6, called);
        y.deploy(1, 5);
        y.deploy(2, 6);
        CHECK.due("the face at the caller's loader, not at the other", y.call(0, 0, 5), -28);
        y.release(2);
        y.offer(0, 6, y.file(7, -1, false, false, 0));
        CHECK.due("6 ahead of the contract's class", y.call(0, 1, 5), -26);
        CHECK.due("then that", y.call(0, 0, 5), -22);
        CHECK.due("calls began", y.count(6), 3);
    }

    private static void deepCalls() {
        ContractLoaders x = new ContractLoaders();
        x.offer(0, 10, x.file(10, -1, true, false, 0));
        int f = file(x, 5, -1, INTS);
        x.under(f, 10);
        acts(x, f, 0, ADD, 0, 1, PLUS, 0, 1, TRY, 0, 0, CALL, 0, 30, ADD, 1, 1);
        acts(x, f, 1, ADD, 0, 1, CALL, 0, 31);
        x.offer(0, 5, f);
        x.deploy(0, 5);
        CHECK.due("a call too many", x.call(0, 1, 0), -33);
        CHECK.due("calls began", x.count(6), 8);
        CHECK.due("in work", x.count(7), 8);
        CHECK.due("rows brought back", x.place(0, 0), 0);
        dueCall(x, 0, 13);
        CHECK.due("calls began", x.count(6), 16);
        CHECK.due("in work", x.count(7), 8);
        CHECK.due("each has added", x.place(0, 0), 8);
        CHECK.due("each went on", x.place(0, 1), 8);
        CHECK.due("steps", x.count(5), 16 + 40);
    }

    private static void letGo() {
        ContractLoaders x = new ContractLoaders();
        for (int l = 1; l < 5; l++) {
            x.loader(l == 4 ? 0 : l - 1);
        }
        x.offer(0, 9, x.file(9, -1, false, false, 0));
        x.offer(3, 11, x.file(11, -1, false, false, 0));
        x.offer(4, 12, x.file(12, -1, false, false, 0));
        int f = file(x, 5, 9, INTS);
        acts(x, f, 0, LET_GO, 3, 0, FIND, 5, 0);
        acts(x, f, 1, LET_GO, 4, 0, LET_GO, 1, 0);
        acts(x, f, 2, TRY, 0, 0, LET_GO, 2, 0, TRY, 0, 0, LET_GO, 5, 0);
        x.offer(2, 5, f);
        x.deploy(3, 5);
        x.find(3, 11);
        x.find(4, 12);
        CHECK.due("there", x.count(3), 4);
        dueCall(x, 0, 205);
        CHECK.due("one let go", x.count(3), 3);
        CHECK.due("at 3", x.told(3, 4), 0);
        CHECK.due("15", x.call(0, 1, 0), -35);
        CHECK.due("what is let go before stays so", x.told(4, 4), 0);
        CHECK.due("there then", x.count(3), 2);
        CHECK.due("a TRY holds 15 and 11", x.call(0, 2, 0), 1);
        CHECK.due("11", x.value(), 11);
        CHECK.due("nothing is held between calls", x.release(0), 2);
        CHECK.due("made anew for a call", x.call(0, 0, 0), 1);
        CHECK.due("made in all", x.count(4), 6);
        CHECK.due("11 below", one(INTS, LET_GO, -1, 0).call(0, 0, 5), -31);
        CHECK.due("11 far", one(INTS, LET_GO, Integer.MAX_VALUE, 0).call(0, 0, 5), -31);
    }

    private static void tries() {
        dueCall(one(INTS, TRY, 0, 0, FAIL, 4, 0, PLUS, 0, 100), 5, 124);
        dueCall(one(INTS, TRY, 0, 0, PLUS, 0, 1, TRY, 0, 0), 5, 6);
        dueCall(one(INTS, TRY, 0, 0), 5, 5);
        dueCall(one(INTS, TRY, 0, 0, TRY, 0, 0, DIVIDE, 0, 0), 5, 12);
        CHECK.due("only the next", one(INTS, TRY, 0, 0, PLUS, 0, 1, FAIL, 4, 0).call(0, 0, 5), -44);
        CHECK.due("only once", one(INTS, TRY, 0, 0, FAIL, 4, 0, FAIL, 5, 0).call(0, 0, 5), -45);
        dueCall(one(INTS, TRY, 0, 0, GET, 4, 0), 5, 10);
        dueCall(one(INTS, TRY, 0, 0, FIND, 20, 0), 5, 1);
        dueCall(one(INTS, TRY, 0, 0, CALL, 7, 0), 5, 11);
        ContractLoaders x = one(INTS, ADD, 0, 1, TRY, 0, 0, FAIL, 4, 0, ADD, 1, 1);
        dueCall(x, 5, 24);
        CHECK.due("before the TRY", x.place(0, 0), 1);
        CHECK.due("behind it", x.place(0, 1), 1);
        CHECK.due("steps", x.count(5), 4);
    }

    private static void triesOfCalls() {
        ContractLoaders x = pair(ADD, 0, 1, CALL, 1, 30, TRY, 0, 0, CALL, 1, 31, ADD, 1, 1);
        dueCall(x, 5, 23);
        CHECK.due("the caller's first", x.place(0, 0), 1);
        CHECK.due("the caller's last", x.place(0, 1), 1);
        CHECK.due("the call before", x.place(1, 0), 6);
        CHECK.due("the call that failed", x.place(1, 1), 0);
        CHECK.due("calls", x.count(6), 3);
        CHECK.due("in work", x.count(7), 2);
        ContractLoaders y = pair(TRY, 0, 0, CALL, 1, 32, CALL, 1, 30, LET_GO, 1, 0);
        CHECK.due("held again behind", y.call(0, 0, 5), -35);
        CHECK.due("all rows", y.place(1, 0), 0);
    }

    private static void broughtBack() {
        for (int lane = BYTES; lane <= DOUBLES; lane++) {
            ContractLoaders x = new ContractLoaders();
            int f = file(x, 5, -1, lane);
            acts(x, f, 0, PUT, 0, 0, ADD, 1, 9);
            acts(x, f, 1, ADD, 0, 1, PUT, 1, 0, PUT, 3, 0, FAIL, 0, 0);
            x.offer(0, 5, f);
            x.deploy(0, 5);
            dueCall(x, 6, 6);
            CHECK.due("fails", x.call(0, 1, 77), -40);
            CHECK.due("value() stays", x.value(), 6);
            long[] due = {6, 9, 0, 0};
            for (int i = 0; i < 4; i++) {
                CHECK.due("place " + i, x.place(0, i), lane == DOUBLES ? Double.doubleToLongBits(due[i]) : due[i]);
            }
            CHECK.due("steps stay", x.count(5), 6);
            CHECK.due("calls stay", x.count(6), 2);
        }
    }

    /** 5000 STEPS in all, over all calls of the object; no TRY holds 16. */
    private static void stepsEnd() {
        ContractLoaders x = new ContractLoaders();
        x.offer(0, 10, x.file(10, -1, true, false, 0));
        int f = file(x, 5, -1, LONGS);
        x.under(f, 10);
        acts(x, f, 0, ADD, 0, 1, TRY, 0, 0, CALL, 0, 30, TRY, 0, 0, CALL, 0, 30);
        acts(x, f, 1, ADD, 1, 1, ADD, 1, 1, ADD, 1, 1, ADD, 1, 1, ADD, 1, 1);
        acts(x, f, 2, PLUS, 0, 1);
        x.offer(0, 5, f);
        x.deploy(0, 5);
        for (int n = 0; n < 300; n++) {
            CHECK.due("five steps", x.call(0, 1, 0), 1);
        }
        CHECK.due("1500 steps", x.count(5), 1500);
        CHECK.due("two calls in each of seven deep", x.call(0, 0, 0), 1);
        CHECK.due("steps of it", x.count(5), 1500 + 255 * 5);
        CHECK.due("places of it", x.place(0, 0), 255);
        CHECK.due("again", x.call(0, 0, 0), 1);
        CHECK.due("16", x.call(0, 0, 0), -36);
        CHECK.due("5000", x.count(5), 5000);
        CHECK.due("rows brought back", x.place(0, 0), 510);
        CHECK.due("no step more", x.call(0, 2, 0), -36);
        CHECK.due("5000 still", x.count(5), 5000);
        CHECK.due("nothing is held", x.release(0), 2);
        CHECK.due("what is no call goes on", x.upgrade(0, 0, 5), 1);
        CHECK.due("value()", x.value(), 13);
    }

    /** The most METHODS that can be in work: 8 CALLS, each in SUPER of SUPER through 13 CLASSES. */
    private static void manyFrames() {
        ContractLoaders x = new ContractLoaders();
        for (int n = 0; n < 13; n++) {
            int f = file(x, 6 + n, n == 0 ? -1 : 5 + n, INTS);
            if (n == 0) {
                x.under(f, 5);
                acts(x, f, 0, ADD, 0, 1, TRY, 0, 0, CALL, 0, 15, ADD, 1, 1);
            } else {
                acts(x, f, 0, TRY, 0, 0, SUPER, 0, 0, PLUS, 0, 1);
            }
            x.offer(0, 6 + n, f);
        }
        x.offer(0, 5, x.file(5, -1, true, false, INTS));
        CHECK.due("deploy", x.deploy(0, 18), 0);
        dueCall(x, 0, 13 + 8 * 12);
        CHECK.due("calls", x.count(6), 8);
        CHECK.due("all were entered", x.place(0, 0), 8);
        CHECK.due("all went on", x.place(0, 1), 8);
        CHECK.due("steps", x.count(5), 8 * (12 * 3 + 4));
    }

    /** A CALL that was not refused by 13 began, though its CLASS is FOUND no more. */
    private static void callThatFindsNone() {
        ContractLoaders x = new ContractLoaders();
        x.loader(0);
        int f = file(x, 5, -1, INTS);
        acts(x, f, 0, PLUS, 0, 1);
        x.offer(1, 5, f);
        x.deploy(1, 5);
        x.offer(0, 5, x.file(6, -1, false, false, 0));
        dueCall(x, 1, 2);
        x.release(1);
        CHECK.due("its class is found no more", x.call(0, 0, 1), -22);
        CHECK.due("calls began", x.count(6), 2);
        CHECK.due("value() stays", x.value(), 2);
        CHECK.due("nothing is in work", x.release(0), 0);
    }

    /** Neither a CALL that failed under a TRY nor the TRY of one that ended counts for the next. */
    private static void nothingStaysOfEndedCalls() {
        ContractLoaders x = new ContractLoaders();
        x.offer(0, 10, x.file(10, -1, true, false, 0));
        int f = file(x, 5, -1, INTS);
        x.under(f, 10);
        acts(x, f, 0, TRY, 0, 0, CALL, 0, 31, TRY, 0, 0, CALL, 0, 31);
        x.offer(0, 5, f);
        x.deploy(0, 5);
        for (int n = 1; n <= 10; n++) {
            dueCall(x, 5, 14);
            CHECK.due("in work at most", x.count(7), 2);
            CHECK.due("calls began", x.count(6), 3 * n);
        }
        ContractLoaders y = new ContractLoaders();
        y.offer(0, 10, y.file(10, -1, true, false, 0));
        int g = file(y, 5, -1, INTS);
        y.under(g, 10);
        acts(y, g, 0, CALL, 0, 31, CALL, 0, 32);
        acts(y, g, 1, TRY, 0, 0, PLUS, 0, 1);
        acts(y, g, 2, PLUS, 0, 1, FAIL, 3, 0);
        y.offer(0, 5, g);
        y.deploy(0, 5);
        CHECK.due("an earlier call's TRY holds nothing", y.call(0, 0, 5), -43);
    }

    private static void wrongNumbers() {
        ContractLoaders x = one(INTS, PLUS, 0, 1);
        int[] bad = {-1, 10, Integer.MIN_VALUE, Integer.MAX_VALUE};
        for (int b : bad) {
            CHECK.due("call contract " + b, x.call(b, 0, 5), -1);
            CHECK.due("call method " + b, x.call(0, b, 5), -1);
        }
        CHECK.due("call contract 1", x.call(1, 0, 5), -1);
        CHECK.due("call method 3", x.call(0, 3, 5), -1);
        CHECK.due("14", x.call(0, 1, 5), -34);
        CHECK.due("value() before any", x.value(), 0);
        CHECK.due("calls began", x.count(6), 1);
        dueCall(x, Long.MAX_VALUE, Long.MIN_VALUE);
    }
}

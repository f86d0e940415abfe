/** Promises 11 to 13 and 16 to 18, sentence by sentence: the edges of deploy, upgrade, move, place, told, count. */
final class EdgesOfContractsTest {
    private static final Check CHECK = new Check("EdgesOfContractsTest");
    private static final Edges EDGES = new Edges(CHECK);
    private static final int BAD = Edges.BAD, FULL = Edges.FULL, NOT = Edges.NOT;
    private static final int LEAST = Edges.LEAST, MOST = Edges.MOST;
    private static final int[] NO_LOADERS = {-1, 3, 8, LEAST, MOST};
    private static final int[] NO_CONTRACTS = {-1, 4, 10, LEAST, MOST};
    private static final int NOT_FOUND = Edges.failure(1), NOT_DEFINED = Edges.failure(2),
            FACE_OR_NOT = Edges.failure(6), UNLIKE = Edges.failure(8), UNLIKE_COPY = Edges.failure(9),
            NO_PLACE = Edges.failure(10);

    public static void main(String[] args) {
        EDGES.runAll(EdgesOfContractsTest.class, 11, 12, 13, 16, 17, 18);
        CHECK.end();
    }

    /**
     * LOADERS 0, 1, 2, each under the one before. At 1: CLASSES 5 .. 8 of the LANES 0 .. 3, whose METHOD 0 puts the VALUE
     * at place 0 and whose METHOD 1 adds 10, 20, 30 to the others; a FACE 9; 10, of another inner NAME. CONTRACTS 0 .. 3
     * of the four, by LOADER 2.
     */
    private static ContractLoaders four() {
        ContractLoaders x = Edges.loaders(0, 1);
        for (int lane = 0; lane < 4; lane++) {
            int f = x.file(5 + lane, -1, false, false, lane);
            Edges.acts(x, f, 0, Edges.PUT, 0, 0);
            Edges.acts(x, f, 1, Edges.ADD, 1, 10, Edges.ADD, 2, 20, Edges.ADD, 3, 30);
            Edges.offered(x, 1, 5 + lane, f);
        }
        Edges.face(x, 1, 9);
        x.offer(1, 10, x.file(11, -1, false, false, 1));
        for (int lane = 0; lane < 4; lane++) {
            x.deploy(2, 5 + lane);
            x.call(lane, 0, 7);
            x.call(lane, 1, 0);
        }
        x.find(1, 9);
        return x;
    }

    private static ContractLoaders fullOfContracts() {
        ContractLoaders x = four();
        for (int n = 4; n < 10; n++) {
            x.deploy(2, 5);
        }
        return x;
    }

    private static void dueRow(String call, ContractLoaders x, int contract, int lane, long... due) {
        for (int i = 0; i < 4; i++) {
            long want = lane == Edges.DOUBLES ? Double.doubleToLongBits((double) due[i]) : due[i];
            CHECK.due(call + ", place " + i, x.place(contract, i), want);
        }
    }

    // Promise 11: deploy

    /** "BAD": there is no such LOADER, no NAME. */
    static void promise11NumbersAreNone() {
        for (int l : NO_LOADERS) {
            EDGES.refused("deploy(" + l + ", 5)", EdgesOfContractsTest::four, x -> x.deploy(l, 5), BAD);
        }
        for (int name : Edges.NO_NAMES) {
            EDGES.refused("deploy(1, " + name + ")", EdgesOfContractsTest::four, x -> x.deploy(1, name), BAD);
        }
    }

    /** "(not a FACE: 6)"; "FAILURES" of finding it. */
    static void promise11Failures() {
        EDGES.refused("a face", EdgesOfContractsTest::four, x -> x.deploy(2, 9), FACE_OR_NOT);
        EDGES.refused("none offered", EdgesOfContractsTest::four, x -> x.deploy(2, 12), NOT_FOUND);
        EDGES.refused("another inner name", EdgesOfContractsTest::four, x -> x.deploy(2, 10), NOT_DEFINED);
        EDGES.refused("by a loader above", EdgesOfContractsTest::four, x -> x.deploy(0, 5), NOT_FOUND);
    }

    /** "What answers so changes nothing (but what was MADE ..)": the FACE that it is not a CONTRACT of is MADE. */
    static void promise11FaceIsMade() {
        ContractLoaders x = four();
        x.release(0);
        int made = x.count(4);
        CHECK.due("a face", x.deploy(2, 9), FACE_OR_NOT);
        CHECK.due("made", x.count(4), made + 1);
        CHECK.due("contracts", x.count(2), 4);
    }

    /** "CONTRACTS 0, 1, .. (10)": "its number"; the eleventh is FULL. */
    static void promise11FullAtTheEleventh() {
        ContractLoaders x = four();
        for (int n = 4; n < 10; n++) {
            CHECK.due("deploy " + n, x.deploy(1, 5 + n % 4), n);
            CHECK.due("contracts", x.count(2), n + 1);
        }
        CHECK.due("the eleventh", x.deploy(1, 5), FULL);
        CHECK.due("the last one is there", x.told(9, 1), 6);
        CHECK.due("one behind it is not", x.told(10, 1), BAD);
    }

    /** "FULL": it changes nothing, and finds nothing. */
    static void promise11FullChangesNothing() {
        EDGES.refused("the eleventh", () -> {
            ContractLoaders x = fullOfContracts();
            x.release(0);
            return x;
        }, x -> x.deploy(2, 5), FULL);
    }

    /** "BAD; FULL; FAILURES": in this order. */
    static void promise11Order() {
        EDGES.refused("BAD loader ahead of FULL", EdgesOfContractsTest::fullOfContracts, x -> x.deploy(3, 5), BAD);
        EDGES.refused("BAD name ahead of FULL", EdgesOfContractsTest::fullOfContracts, x -> x.deploy(2, 30), BAD);
        EDGES.refused("FULL ahead of 1", EdgesOfContractsTest::fullOfContracts, x -> x.deploy(2, 12), FULL);
        EDGES.refused("FULL ahead of 6", EdgesOfContractsTest::fullOfContracts, x -> x.deploy(2, 9), FULL);
    }

    /** "its number": a refused one takes none. */
    static void promise11RefusedTakesNoNumber() {
        ContractLoaders x = four();
        x.deploy(2, 9);
        x.deploy(2, 12);
        CHECK.due("the next", x.deploy(2, 5), 4);
    }

    /** "a row of some LANE of 4 places, 0 at first". */
    static void promise11ZeroAtFirst() {
        ContractLoaders x = four();
        for (int lane = 0; lane < 4; lane++) {
            int n = x.deploy(2, 5 + lane);
            dueRow("lane " + lane, x, n, lane, 0, 0, 0, 0);
            CHECK.dueNoPlace(x, n, 4);
        }
    }

    /** "with a row of its FILE's LANE": of the CLASS's, not of its SUPER's. */
    static void promise11LaneOfItsFile() {
        ContractLoaders x = four();
        int f = x.file(12, 7, false, false, Edges.BYTES);
        x.offer(1, 12, f);
        CHECK.due("deploy", x.deploy(2, 12), 4);
        CHECK.due("its lane", x.told(4, 2), Edges.BYTES);
        CHECK.due("its super's is another", x.call(4, 0, 7), UNLIKE);
    }

    /** "CONTRACTS .. have a LOADER, a NAME": those that it was FOUND by, at the ends too. */
    static void promise11LoaderAndNameAtTheEnds() {
        ContractLoaders x = Edges.loaders(0, 1, 2, 3, 4, 5, 6);
        Edges.plain(x, 0, 0);
        Edges.plain(x, 7, 29);
        CHECK.due("deploy(7, 0)", x.deploy(7, 0), 0);
        CHECK.due("deploy(0, 0)", x.deploy(0, 0), 1);
        CHECK.due("deploy(7, 29)", x.deploy(7, 29), 2);
        CHECK.due("loader of 0", x.told(0, 0), 7);
        CHECK.due("name of 0", x.told(0, 1), 0);
        CHECK.due("loader of 1", x.told(1, 0), 0);
        CHECK.due("name of 2", x.told(2, 1), 29);
    }

    // Promise 12: upgrade

    /** "BAD": there is no such CONTRACT, no such LOADER, no NAME. */
    static void promise12NumbersAreNone() {
        for (int c : NO_CONTRACTS) {
            EDGES.refused("upgrade(" + c + ", 1, 5)", EdgesOfContractsTest::four, x -> x.upgrade(c, 1, 5), BAD);
        }
        for (int l : NO_LOADERS) {
            EDGES.refused("upgrade(0, " + l + ", 5)", EdgesOfContractsTest::four, x -> x.upgrade(0, l, 5), BAD);
        }
        for (int name : Edges.NO_NAMES) {
            EDGES.refused("upgrade(0, 1, " + name + ")", EdgesOfContractsTest::four, x -> x.upgrade(0, 1, name), BAD);
        }
        CHECK.due("the last of ten", fullOfContracts().upgrade(9, 1, 6), 1);
    }

    /** "(FOUND, not a FACE: 6)"; "FAILURES": LOADER and NAME stay as they were. */
    static void promise12Failures() {
        EDGES.refused("a face", EdgesOfContractsTest::four, x -> x.upgrade(0, 1, 9), FACE_OR_NOT);
        EDGES.refused("none offered", EdgesOfContractsTest::four, x -> x.upgrade(0, 1, 12), NOT_FOUND);
        EDGES.refused("another inner name", EdgesOfContractsTest::four, x -> x.upgrade(0, 1, 10), NOT_DEFINED);
        EDGES.refused("by a loader above", EdgesOfContractsTest::four, x -> x.upgrade(0, 0, 5), NOT_FOUND);
    }

    /** "BAD" ahead of "FAILURES": a CONTRACT that is none finds nothing. */
    static void promise12BadAheadOfFailures() {
        EDGES.refused("none offered", EdgesOfContractsTest::four, x -> x.upgrade(4, 1, 12), BAD);
        EDGES.refused("a class that is let go", () -> {
            ContractLoaders x = four();
            x.release(0);
            return x;
        }, x -> x.upgrade(4, 1, 5), BAD);
    }

    /** "A CONTRACT gets another LOADER and NAME": that one alone; "its row stays", of an unlike LANE too. */
    static void promise12ItsRowStays() {
        for (int lane = 0; lane < 4; lane++) {
            ContractLoaders x = four();
            CHECK.due("upgrade", x.upgrade(lane, 1, 5 + (lane + 1) % 4), 1);
            CHECK.due("its loader", x.told(lane, 0), 1);
            CHECK.due("its name", x.told(lane, 1), 5 + (lane + 1) % 4);
            CHECK.due("its lane", x.told(lane, 2), lane);
            dueRow("its row", x, lane, lane, 7, 10, 20, 30);
            CHECK.due("that is of another lane", x.call(lane, 0, 7), UNLIKE);
            int other = (lane + 2) % 4;
            CHECK.due("another one's loader", x.told(other, 0), 2);
            CHECK.due("another one's name", x.told(other, 1), 5 + other);
        }
    }

    /** "another LOADER and NAME": the same ones are taken as well. */
    static void promise12TheSameAgain() {
        EDGES.refused("upgrade(0, 2, 5)", EdgesOfContractsTest::four, x -> x.upgrade(0, 2, 5), 1);
    }

    // Promise 13: move

    /** "BAD": there is no such CONTRACT, no LANE. */
    static void promise13NumbersAreNone() {
        int[] noLanes = {-1, 4, LEAST, MOST};
        for (int c : NO_CONTRACTS) {
            EDGES.refused("move(" + c + ", 0, 0, 1)", EdgesOfContractsTest::four, x -> x.move(c, 0, 0, 1), BAD);
        }
        for (int lane : noLanes) {
            EDGES.refused("move(0, " + lane + ", 0, 1)", EdgesOfContractsTest::four, x -> x.move(0, lane, 0, 1), BAD);
        }
        CHECK.due("the last of ten", fullOfContracts().move(9, Edges.BYTES, 0, 4), 1);
    }

    /** "BAD (n above 4)": ahead of 9 and 10; 4 is not. */
    static void promise13TooManyPlaces() {
        int[] tooMany = {5, 6, MOST};
        for (int n : tooMany) {
            EDGES.refused("n " + n, EdgesOfContractsTest::four, x -> x.move(1, 1, 0, n), BAD);
            EDGES.refused("n " + n + " of unlike lanes", EdgesOfContractsTest::four, x -> x.move(1, 2, 0, n), BAD);
            EDGES.refused("n " + n + " from 9 on", EdgesOfContractsTest::four, x -> x.move(1, 1, 9, n), BAD);
        }
        EDGES.refused("n 4", EdgesOfContractsTest::four, x -> x.move(1, 1, 0, 4), 1);
    }

    /** "9 unlike LANES": each other one, whatever is copied, if only 0 places. */
    static void promise13UnlikeLanes() {
        for (int of = 0; of < 4; of++) {
            for (int lane = 0; lane < 4; lane++) {
                int c = of;
                int into = lane;
                if (of != lane) {
                    EDGES.refused(of + " into " + lane, EdgesOfContractsTest::four, x -> x.move(c, into, 0, 4), UNLIKE_COPY);
                    EDGES.refused(of + " into " + lane + ", none", EdgesOfContractsTest::four,
                            x -> x.move(c, into, 0, 0), UNLIKE_COPY);
                }
            }
        }
    }

    /** "9 unlike LANES, ahead of 10 bounds". */
    static void promise13NineAheadOfTen() {
        int[][] outside = {{-1, 1}, {4, 1}, {1, 4}, {0, -1}, {5, 0}, {LEAST, 1}, {MOST, 4}};
        for (int[] o : outside) {
            EDGES.refused("from " + o[0] + ", " + o[1], EdgesOfContractsTest::four, x -> x.move(1, 2, o[0], o[1]),
                    UNLIKE_COPY);
        }
    }

    /** "10 bounds": i below 0 or too far for n places, also for 0 of them; n below 0. */
    static void promise13Bounds() {
        int[][] outside = {{-1, 0}, {-1, 1}, {5, 0}, {4, 1}, {3, 2}, {1, 4}, {0, -1}, {4, -1}, {0, LEAST}, {LEAST, 0},
            {LEAST, 4}, {MOST, 0}, {MOST, 1}, {MOST, 4}, {LEAST, LEAST}, {MOST, LEAST}, {-4, 4}};
        for (int[] o : outside) {
            for (int lane = 0; lane < 4; lane++) {
                int c = lane;
                EDGES.refused("from " + o[0] + ", " + o[1], EdgesOfContractsTest::four, x -> x.move(c, c, o[0], o[1]),
                        NO_PLACE);
            }
        }
    }

    /** "n places from i on to 0 on": up to the end of the row; the others of the new one are 0. */
    static void promise13WithinTheRow() {
        long[] before = {7, 10, 20, 30};
        for (int i = 0; i <= 4; i++) {
            for (int n = 0; n <= 4 - i; n++) {
                for (int lane = 0; lane < 4; lane++) {
                    ContractLoaders x = four();
                    long[] due = new long[4];
                    System.arraycopy(before, i, due, 0, n);
                    String call = "move(" + lane + ", " + lane + ", " + i + ", " + n + ")";
                    CHECK.due(call, x.move(lane, lane, i, n), 1);
                    dueRow(call, x, lane, lane, due);
                    CHECK.due("its lane", x.told(lane, 2), lane);
                    int other = (lane + 1) % 4;
                    dueRow("another one's row", x, other, other, before);
                }
            }
        }
    }

    // Promise 16: place

    /** "IllegalArgumentException: there is none": no such place, no such CONTRACT. */
    static void promise16NoneThere() {
        int[] noPlaces = {-1, 4, 5, LEAST, MOST};
        ContractLoaders x = four();
        for (int c = 0; c < 4; c++) {
            for (int i : noPlaces) {
                CHECK.dueNoPlace(x, c, i);
            }
        }
        for (int c : NO_CONTRACTS) {
            CHECK.dueNoPlace(x, c, 0);
        }
        CHECK.dueNoPlace(fullOfContracts(), 10, 0);
        CHECK.dueNoPlace(new ContractLoaders(), 0, 0);
        CHECK.dueNoPlace(new ContractLoaders(), -1, -1);
    }

    /** "IllegalArgumentException": what is thrown changes nothing. */
    static void promise16ThrownChangesNothing() {
        EDGES.refused("place(0, 4)", EdgesOfContractsTest::four, x -> {
            CHECK.dueNoPlace(x, 0, 4);
            CHECK.dueNoPlace(x, 4, 0);
            return 1;
        }, 1);
    }

    /** "Place i of a CONTRACT's row": 0 and 3 of the first and of the last CONTRACT, each its own. */
    static void promise16PlacesAtTheEnds() {
        ContractLoaders x = fullOfContracts();
        CHECK.due("place(0, 0)", x.place(0, 0), 7);
        CHECK.due("place(0, 3)", x.place(0, 3), 30);
        CHECK.due("place(9, 0)", x.place(9, 0), 0);
        CHECK.due("call(9)", x.call(9, 1, 0), 1);
        CHECK.due("place(9, 0)", x.place(9, 0), 0);
        CHECK.due("place(9, 3)", x.place(9, 3), 30);
        CHECK.due("place(8, 3)", x.place(8, 3), 0);
    }

    /** "as a long (a double's bits)": each LANE's least and greatest. */
    static void promise16AsALong() {
        long[] values = {0, 1, -1, 2, 3, 127, 128, -128, -129, 255, 256, MOST, LEAST, MOST + 1L, LEAST - 1L, 1L << 32,
            (1L << 52) - 1, 1L << 52, (1L << 53) - 1, (1L << 53) + 1, (1L << 53) + 3, -(1L << 53) - 1, 1L << 62,
            Long.MAX_VALUE, Long.MAX_VALUE - 511, Long.MAX_VALUE - 512, Long.MIN_VALUE, Long.MIN_VALUE + 1};
        ContractLoaders x = four();
        for (long v : values) {
            for (int lane = 0; lane < 4; lane++) {
                x.call(lane, 0, v);
            }
            CHECK.due("byte of " + v, x.place(0, 0), (byte) v);
            CHECK.due("int of " + v, x.place(1, 0), (int) v);
            CHECK.due("long of " + v, x.place(2, 0), v);
            CHECK.due("double of " + v, x.place(3, 0), Double.doubleToLongBits((double) v));
        }
    }

    /** "(a double's bits)": of each power of two and what is next to it, both signs. */
    static void promise16BitsOfEachSize() {
        ContractLoaders x = four();
        for (int power = 0; power < 63; power++) {
            long v = 1L << power;
            for (long near : new long[] {v, -v, v + (v >> 1), 1 - v}) {
                x.call(3, 0, near);
                CHECK.due("double of " + near, x.place(3, 0), Double.doubleToLongBits((double) near));
            }
            x = power % 16 == 15 ? four() : x;
        }
    }

    /** "(a double's bits)": sums beyond all longs. */
    static void promise16BitsBeyondLongs() {
        double due = 0x1p63;
        ContractLoaders x = Edges.one(Edges.DOUBLES, Edges.PUT, 0, 0, Edges.ADD, 0, MOST, Edges.ADD, 0, MOST);
        x.call(0, 0, Long.MAX_VALUE);
        CHECK.due("above", x.place(0, 0), Double.doubleToLongBits(due + MOST + MOST));
        ContractLoaders y = Edges.one(Edges.DOUBLES, Edges.PUT, 0, 0, Edges.ADD, 0, LEAST, Edges.ADD, 0, LEAST);
        y.call(0, 0, Long.MIN_VALUE);
        CHECK.due("below", y.place(0, 0), Double.doubleToLongBits(-due + LEAST + LEAST));
    }

    // Promise 17: told

    /** "BAD": what is none of 0 .. 5. */
    static void promise17WhatIsNone() {
        int[] none = {-1, 6, LEAST, MOST};
        for (int what : none) {
            EDGES.refused("told(0, " + what + ")", EdgesOfContractsTest::four, x -> x.told(0, what), BAD);
        }
    }

    /** "Of a CONTRACT": "BAD" if there is none, though there is such a LOADER. */
    static void promise17ContractIsNone() {
        for (int what = 0; what < 3; what++) {
            int w = what;
            for (int c : NO_CONTRACTS) {
                EDGES.refused("told(" + c + ", " + what + ")", EdgesOfContractsTest::four, x -> x.told(c, w), BAD);
            }
            CHECK.due("a loader, no contract", Edges.loaders(0).told(1, what), BAD);
            CHECK.due("a loader 0, no contract 0", new ContractLoaders().told(0, what), BAD);
            CHECK.due("behind the last of ten", fullOfContracts().told(10, what), BAD);
        }
    }

    /** "of a LOADER": "BAD" if there is none, though there is such a CONTRACT. */
    static void promise17LoaderIsNone() {
        for (int what = 3; what < 6; what++) {
            int w = what;
            for (int l : NO_LOADERS) {
                EDGES.refused("told(" + l + ", " + what + ")", EdgesOfContractsTest::four, x -> x.told(l, w), BAD);
            }
            CHECK.due("behind the last of eight", Edges.loaders(0, 0, 0, 0, 0, 0, 0).told(8, what), BAD);
        }
    }

    /** "what = 0 LOADER, 1 NAME, 2 the LANE of its row": of the first and the last. */
    static void promise17OfContracts() {
        ContractLoaders x = fullOfContracts();
        int[] first = {2, 5, 0};
        int[] fourth = {2, 8, 3};
        for (int what = 0; what < 3; what++) {
            CHECK.due("told(0, " + what + ")", x.told(0, what), first[what]);
            CHECK.due("told(3, " + what + ")", x.told(3, what), fourth[what]);
            CHECK.due("told(9, " + what + ")", x.told(9, what), first[what]);
        }
    }

    /** "3 PARENT (NOT of 0)": of 0 alone. */
    static void promise17ParentOfTheEngine() {
        ContractLoaders x = Edges.loaders(0, 0, 2, 3, 4, 5, 6);
        int[] parents = {NOT, 0, 0, 2, 3, 4, 5, 6};
        for (int l = 0; l < 8; l++) {
            CHECK.due("told(" + l + ", 3)", x.told(l, 3), parents[l]);
        }
    }

    /** "4 CLASSES that are there, 5 NAMES it OFFERS": none, some, and all that it can have. */
    static void promise17ClassesAndNames() {
        ContractLoaders x = Edges.loaders(0, 1);
        int[] files = new int[24];
        for (int n = 0; n < 24; n++) {
            files[n] = x.file(6 + n, -1, false, false, 1);
        }
        for (int n = 0; n < 24; n++) {
            CHECK.due("names before " + n, x.told(1, 5), n);
            CHECK.due("classes before " + n, x.told(1, 4), n);
            x.offer(1, 6 + n, files[n]);
            CHECK.due("an offer alone makes none", x.told(1, 4), n);
            x.find(2, 6 + n);
            CHECK.due("found by another", x.told(2, 4), 0);
        }
        for (int name = 0; name < 6; name++) {
            x.offer(1, name, files[0]);
        }
        CHECK.due("all names", x.told(1, 5), 30);
        CHECK.due("names of 2", x.told(2, 5), 0);
        CHECK.due("names of 0", x.told(0, 5), 0);
        x.release(1);
        CHECK.due("let go", x.told(1, 4), 0);
        CHECK.due("offered still", x.told(1, 5), 30);
    }

    // Promise 18: count

    /** "BAD": what is none of 0 .. 7. */
    static void promise18WhatIsNone() {
        int[] none = {-1, 8, LEAST, MOST};
        for (int what : none) {
            EDGES.refused("count(" + what + ")", EdgesOfContractsTest::four, x -> x.count(what), BAD);
        }
    }

    /** "What = 0 FILES, 1 LOADERS, 2 CONTRACTS": with refused ones and at the most. */
    static void promise18OfThings() {
        ContractLoaders x = fullOfContracts();
        for (int n = 6; n < 26; n++) {
            x.file(5, -1, false, false, 0);
            x.loader(0);
            x.deploy(2, 5);
        }
        CHECK.due("files", x.count(0), 24);
        CHECK.due("loaders", x.count(1), 8);
        CHECK.due("contracts", x.count(2), 10);
    }

    /** "3 CLASSES there, 4 MADE in all": let go and made anew; a FAILURE makes none. */
    static void promise18OfClasses() {
        ContractLoaders x = four();
        CHECK.due("there", x.count(3), 5);
        CHECK.due("made", x.count(4), 5);
        x.find(2, 10);
        x.find(2, 12);
        CHECK.due("made behind failures", x.count(4), 5);
        x.release(2);
        CHECK.due("there behind a release of none", x.count(3), 5);
        x.release(1);
        CHECK.due("there behind a release", x.count(3), 0);
        CHECK.due("made stays", x.count(4), 5);
        x.find(2, 5);
        CHECK.due("there anew", x.count(3), 1);
        CHECK.due("made anew", x.count(4), 6);
    }

    /** "5 STEPS in all, 6 CALLS that began in all, 7 how many were in work at most": not of what is BAD. */
    static void promise18OfCalls() {
        ContractLoaders x = four();
        CHECK.due("steps", x.count(5), 4 * 4);
        CHECK.due("calls", x.count(6), 8);
        CHECK.due("in work", x.count(7), 1);
        x.call(0, 3, 0);
        x.call(4, 0, 0);
        CHECK.due("calls behind BAD ones", x.count(6), 8);
        x.call(0, 2, 0);
        CHECK.due("calls behind one without a method", x.count(6), 9);
        CHECK.due("steps of it", x.count(5), 16);
        CHECK.due("in work still", x.count(7), 1);
        CHECK.due("none in work at first", new ContractLoaders().count(7), 0);
    }
}
